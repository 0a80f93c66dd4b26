/**
 * The sentences under "Terms" that say what is a tag and what is not, each with a test of its own.
 * In a text that is no tag, a ! stands before the place that read() must tell.
 */
public final class TagEdgesTest {
    /** Tags of 60 characters with as many private subtags, and types, as these can hold. */
    private static final String MOST_PRIVATE = "en-x" + "-1".repeat(28);
    private static final String MOST_TYPES = "eng-u-co" + "-abc".repeat(13);

    /** A tag of 58 characters behind which a subtag of one can be typed. */
    private static final String ALMOST_SIXTY =
            "en-12345678-abcdefgh-bcdefghi-cdefghij-1abc-1abd-1abe-1abf";

    private TagEdgesTest() {
    }

    public static void main(String[] args) {
        letters();
        digits();
        eitherCase();
        cuts();
        emptySubtags();
        languages();
        scripts();
        regions();
        orderInFront();
        variantLengths();
        variantsOfFour();
        manyVariants();
        differentVariants();
        extensionPlace();
        extensionNeedsKeyword();
        keys();
        differentKeys();
        manyTypes();
        typeLengths();
        behindTheExtension();
        privateNeedsOne();
        privateLengths();
        manyPrivate();
        nothingBehindPrivate();
        firstWrongOne();
        moreMustFollow();
        wrongAtTheEndOfSixty();
        Checks.finish();
    }

    private static void tag(String... texts) {
        for (String text : texts) {
            Counted x = new Counted();
            Checks.due("read of " + text, Checks.read(x, text), 0);
        }
    }

    private static void noTag(String... marked) {
        for (String text : marked) {
            int place = text.indexOf('!');
            Counted x = new Counted();
            Checks.due("read of " + text, Checks.read(x, text.replace("!", "")), -1000 - place);
            Checks.due("tags() behind " + text, x.tags(), 0);
        }
    }

    private static void form(String text, String want) {
        Checks.due("form of " + text, Checks.formOf(text), want);
    }

    private static void letters() {
        Checks.about("LETTERS are a .. z and A .. Z");
        for (char c = 'a'; c <= 'z'; c++) {
            char capital = (char) (c - 32);
            tag("" + c + c, "" + capital + capital, "en-" + c + capital + c + capital);
            form("" + capital + capital, "" + c + c);
        }
        for (char c : new char[] {'a' - 1, 'z' + 1, 'A' - 1, 'Z' + 1}) {
            Checks.due("type of " + c, new Counted().type(c), false);
        }
    }

    private static void digits() {
        Checks.about("DIGITS 0 .. 9");
        for (char c = '0'; c <= '9'; c++) {
            tag("en-" + c + c + c, "en-" + c + "abc");
            noTag("!e" + c, "!" + c + "e");
        }
        for (char c : new char[] {'0' - 1, '9' + 1}) {
            Checks.due("type of " + c, new Counted().type(c), false);
        }
    }

    private static void eitherCase() {
        Checks.about("a letter is the same in either case");
        Counted x = new Counted();
        Checks.due("small", Checks.read(x, "en-latn-us-rozaj-u-co-abc-x-z"), 0);
        Checks.due("capital", Checks.read(x, "EN-LATN-US-ROZAJ-U-CO-ABC-X-Z"), 0);
        Checks.due("mixed", Checks.read(x, "eN-lAtN-uS-rOzAj-u-cO-aBc-X-z"), 0);
    }

    private static void cuts() {
        Checks.about("cut into subtags at each - and each _");
        form("en-Latn-US", "en-Latn-US");
        form("en_Latn_US", "en-Latn-US");
        form("en_Latn-US_rozaj-u_co-abc_x-a", "en-Latn-US-rozaj-u-co-abc-x-a");
        noTag("!en=US", "en-!US=GB", "en-x-!a=b");
    }

    private static void emptySubtags() {
        Checks.about("subtags (which may be empty)");
        noTag("!", "!-", "!_", "!-en", "!_en", "!--", "en-!", "en_!", "en-!-US", "en_!_US",
                "en-!_US", "en-Latn-!-US", "en-US-!-rozaj", "en-rozaj-!-1abc", "en-rozaj-!",
                "en-u-!", "en-u-!-co", "en-u-co-!", "en-u-co-!-abc", "en-u-co-abc-!", "en-x-!",
                "en-x-!-a", "en-x-a-!", "en-x-a-!-b");
    }

    private static void languages() {
        Checks.about("a LANGUAGE: 2 or 3 letters");
        tag("en", "eng", "xx", "ux");
        noTag("!e", "!engl", "!engli", "!x", "!u", "!e1", "!1e", "!12", "!en1", "!1en", "!e1n",
                "!123", "!e-US", "!x-en", "!u-co", "!Latn", "!rozaj", "!1abc");
    }

    private static void scripts() {
        Checks.about("perhaps a SCRIPT: 4 letters");
        form("en-latn", "en-Latn");
        form("en-latin", "en-latin");
        form("en-1atn", "en-1atn");
        noTag("en-!lat", "en-!lat1", "en-!la1n", "en-!l1tn", "en-Latn-!Cyrl", "en-Latn-!Latn");
    }

    private static void regions() {
        Checks.about("perhaps a REGION: 2 letters or 3 digits");
        tag("en-US", "en-840", "en-Latn-US", "en-Latn-840", "en-000", "en-999");
        form("en-8401", "en-8401");
        noTag("en-!A", "en-!8", "en-!84", "en-!U1", "en-!1U", "en-!USA", "en-!84A", "en-!8A0",
                "en-!A40", "en-Latn-!A", "en-Latn-!84", "en-US-!GB", "en-US-!US", "en-840-!US",
                "en-US-!840", "en-840-!840");
    }

    private static void orderInFront() {
        Checks.about("its subtags are, one behind the other: language, script, region, variants");
        tag("en-Latn-US-rozaj", "en-Latn-rozaj", "en-US-rozaj", "en-rozaj", "en-1abc");
        noTag("en-US-!Latn", "en-rozaj-!Latn", "en-rozaj-!US", "en-rozaj-!840", "en-1abc-!Latn",
                "en-Latn-US-rozaj-!GB", "en-US-rozaj-!Latn");
    }

    private static void variantLengths() {
        Checks.about("VARIANTS: 5 to 8 letters or digits");
        tag("en-abcde", "en-abcdef", "en-abcdefg", "en-abcdefgh", "en-12345", "en-12345678",
                "en-a2345", "en-abcd5678", "en-1bcde", "en-US-abcde", "en-Latn-abcdefgh");
        noTag("en-!abcdefghi", "en-!123456789", "en-US-!abcd", "en-rozaj-!abcd",
                "en-rozaj-!abcdefghi", "en-US-!abcdefghijkl");
    }

    private static void variantsOfFour() {
        Checks.about("or 4 of which the first one is a digit");
        tag("en-1abc", "en-1234", "en-0a1b", "en-9zzz", "en-US-1abc", "en-rozaj-1abc");
        noTag("en-!a123", "en-!abc1", "en-!a1bc", "en-!1ab", "en-US-!a123", "en-rozaj-!abcd",
                "en-rozaj-!123", "en-rozaj-!1ab");
    }

    private static void manyVariants() {
        Checks.about("any number of variants");
        StringBuilder text = new StringBuilder("en");
        for (int i = 0; i < 11; i++) {
            tag(text.toString());
            text.append("-1ab").append((char) ('a' + i));
        }
        form(text.toString(), text.toString());
        form("eng-Latn-1abc-1abd-12345678-abcdefgh-bcdefghi-cdefghij-abcde",
                "eng-Latn-12345678-1abc-1abd-abcde-abcdefgh-bcdefghi-cdefghij");
    }

    private static void differentVariants() {
        Checks.about("different variants");
        noTag("en-rozaj-!rozaj", "en-rozaj-!ROZAJ", "en-rozaj-biske-!rozaj", "en-1abc-!1ABC",
                "en-US-biske-rozaj-1abc-!biske-rozaj", "en-abcdefgh-!abcdefgh");
        tag("en-rozaj-rozaja", "en-abcdefgh-abcdefg", "en-1abc-1abcd", "en-rozaj-u-co-rozaj",
                "en-rozaj-x-rozaj");
    }

    private static void extensionPlace() {
        Checks.about("perhaps an EXTENSION: u");
        tag("en-u-co", "en-Latn-u-co", "en-US-u-co", "en-rozaj-u-co", "en-U-co",
                "en-Latn-US-rozaj-u-co-x-a");
        noTag("en-!t-co", "en-!v-co", "en-!a-co", "en-!1-co", "en-u-co-!u",
                "en-u-co-!u-nu", "en-u-co-abc-!u-nu", "en-u-!u-co");
    }

    private static void extensionNeedsKeyword() {
        Checks.about("behind it one or more KEYWORDS");
        noTag("en-u!", "en_U!", "en-Latn-US-rozaj-u!", "en-u-!x", "en-u-!x-a", "en-u-!abc",
                "en-u-!abc-co", "en-u-!true");
        tag("en-u-co", "en-u-co-nu", "en-u-co-abc-nu-abc-ca", "en-u-ab-ac-ad-ae-af-ag-ah-ai-aj");
    }

    private static void keys() {
        Checks.about("a KEY (a letter or digit, and a letter)");
        tag("en-u-ab", "en-u-1b", "en-u-0a", "en-u-9z", "en-u-zz", "en-u-co-1b");
        noTag("en-u-!a1", "en-u-!11", "en-u-!a", "en-u-!1", "en-u-!abc", "en-u-co-!a1",
                "en-u-co-!11", "en-u-co-abc-!a1", "en-u-co-!1");
    }

    private static void differentKeys() {
        Checks.about("keywords with different keys");
        noTag("en-u-co-!co", "en-u-co-!CO", "en-u-co-abc-!co", "en-u-co-abc-!co-abd",
                "en-u-co-nu-!co", "en-u-co-nu-abc-ca-!nu-abd", "en-u-1a-!1A");
        tag("en-u-co-oc", "en-u-co-c1a-cp", "en-u-1a-2a", "en-u-co-x-co", "en-u-co-abc-nu-abc");
    }

    private static void manyTypes() {
        Checks.about("any number of TYPES");
        tag("en-u-co", "en-u-co-abc", "en-u-co-abc-abc", "en-u-co-abc-abd-nu", MOST_TYPES);
        form(MOST_TYPES, MOST_TYPES);
    }

    private static void typeLengths() {
        Checks.about("TYPES (3 to 8 letters or digits each)");
        tag("en-u-co-abc", "en-u-co-123", "en-u-co-1b3", "en-u-co-abcd", "en-u-co-abcdefgh",
                "en-u-co-12345678");
        noTag("en-u-co-!a", "en-u-co-!1", "en-u-co-!12", "en-u-co-!abcdefghi",
                "en-u-co-abc-!123456789", "en-u-co-abc-!1");
    }

    private static void behindTheExtension() {
        Checks.about("behind the extension perhaps private subtags, and nothing else");
        form("en-u-co-840", "en-u-co-840");
        form("en-u-co-US", "en-u-co-us");
        form("en-u-co-Latn", "en-u-co-latn");
        form("en-u-co-rozaj-1abc", "en-u-co-rozaj-1abc");
        tag("en-u-co-x-a", "en-u-co-abc-x-a");
        noTag("en-u-co-!a-b", "en-u-co-abc-!t-co");
    }

    private static void privateNeedsOne() {
        Checks.about("perhaps PRIVATE subtags: x, and behind it one or more");
        noTag("en-x!", "en_X!", "en-Latn-US-rozaj-x!", "en-u-co-x!", "en-u-co-abc-x!", "en-x-!",
                "!x", "!x-a", "en-!y-a");
        tag("en-x-a", "en-Latn-x-a", "en-US-x-a", "en-rozaj-x-a", "en-u-co-x-a", "en-X-a");
    }

    private static void privateLengths() {
        Checks.about("private subtags of 1 to 8 letters or digits");
        tag("en-x-a", "en-x-1", "en-x-ab", "en-x-a1", "en-x-abcdefgh", "en-x-12345678");
        noTag("en-x-!abcdefghi", "en-x-!123456789", "en-x-a-!abcdefghi", "en-x-a-b-!");
    }

    private static void manyPrivate() {
        Checks.about("one or more private subtags, the same ones too");
        form(MOST_PRIVATE, MOST_PRIVATE);
        tag("en-x-a-a", "en-x-rozaj-rozaj", "en-x-co-co", "en-x-x-x", "en-x-u-u");
    }

    private static void nothingBehindPrivate() {
        Checks.about("all behind x is private");
        form("en-x-a-US-Latn-u-CO-x-rozaj", "en-x-a-us-latn-u-co-x-rozaj");
        form("en-x-u", "en-x-u");
        form("en-x-x", "en-x-x");
        form("en-x-u-co-true", "en-x-u-co-true");
        form("en-x-rozaj-biske", "en-x-rozaj-biske");
    }

    private static void firstWrongOne() {
        Checks.about("the place where the first subtag begins that can't stand (whatever may follow)");
        noTag("!e-f-g", "!-en-", "en-!e-f", "en-!e--", "en-!USA-GB", "en-US-!Latn-",
                "en-u-!x-co", "en-u-!abc-abc", "en-rozaj-!rozaj-rozaj", "en-!-u", "en-!e-u",
                "en-!e-x", "!engl-x", "en-x-!abcdefghi-x-", "en-u-co-!co-co");
    }

    private static void moreMustFollow() {
        Checks.about("less the number of characters if all can but more must follow");
        noTag("en-u!", "eng-u!", "en-Latn-u!", "en-x!", "eng-x!", "en-u-co-x!",
                "en-Latn-US-rozaj-u-co-abc-x!");
    }

    private static void wrongAtTheEndOfSixty() {
        Checks.about("a place, or a number of characters, up to 60");
        tag(ALMOST_SIXTY);
        noTag(ALMOST_SIXTY + "-u!", ALMOST_SIXTY + "-x!", ALMOST_SIXTY + "-!e",
                ALMOST_SIXTY + "-!-", ALMOST_SIXTY + "-!=", "eng-x" + "-1".repeat(27) + "-!",
                "en-x" + "-1".repeat(27) + "-!=", "!" + "a".repeat(60), "!" + "-".repeat(60),
                "!" + "=".repeat(60), "en-!" + "b".repeat(57));
    }
}
