/** The sentences under "Terms" on aliases and on the form, each with a test of its own. */
public final class FormEdgesTest {
    private FormEdgesTest() {
    }

    public static void main(String[] args) {
        replacedAndSoOn();
        replacedByPairsOfItsKind();
        replacedLanguageAlone();
        hyphenBetween();
        language();
        script();
        region();
        smallLettersBehind();
        variantsByCharacters();
        digitsBeforeLetters();
        shorterBeforeLonger();
        keywordsByKeys();
        typesAsTheyCame();
        onlyTypeTrue();
        trueBesideAnother();
        trueElsewhere();
        privateAsTheyCame();
        longestForm();
        shortForm();
        plain();
        sameForm();
        Checks.finish();
    }

    private static void form(String text, String want) {
        Checks.due("form of " + text, Checks.formOf(text), want);
    }

    private static void formIn(Counted x, String text, String want) {
        Checks.due("form of " + text, Checks.show(x, Checks.read(x, text), 0), want);
    }

    private static void replacedAndSoOn() {
        Checks.about("replaced by the second one of the pair, and so on, as long as there is one");
        Counted x = new Counted();
        for (char c = 'h'; c >= 'a'; c--) {
            Checks.alias(x, "a" + c + "=a" + (char) (c + 1), false);
        }
        formIn(x, "aa", "ai");
        formIn(x, "ah", "ai");
        formIn(x, "ai", "ai");
        formIn(x, "aj", "aj");
        Checks.due("all the same tag", x.tags(), 2);
        Counted y = new Counted();
        for (char c = 'a'; c <= 'h'; c++) {
            Checks.alias(y, "a" + c + "=a" + (char) (c + 1), true);
        }
        formIn(y, "en-aa", "en-AI");
        formIn(y, "en-ah", "en-AI");
        formIn(y, "en-ai", "en-AI");
    }

    private static void replacedByPairsOfItsKind() {
        Checks.about("aliases are pairs of languages, or of regions");
        Counted x = new Counted();
        Checks.alias(x, "de=fr", false);
        Checks.alias(x, "fr=it", true);
        formIn(x, "de-DE", "fr-DE");
        formIn(x, "fr-FR", "fr-IT");
        formIn(x, "it-de", "it-DE");
    }

    private static void replacedLanguageAlone() {
        Checks.about("the language, replaced; the region, replaced; the others are not");
        Counted x = new Counted();
        Checks.alias(x, "co=zz", false);
        Checks.alias(x, "co=zz", true);
        Checks.alias(x, "abc=zzz", false);
        Checks.alias(x, "123=999", true);
        formIn(x, "co-co-u-co-abc-123-x-co-abc-123", "zz-ZZ-u-co-abc-123-x-co-abc-123");
        formIn(x, "abc-123", "zzz-999");
    }

    private static void hyphenBetween() {
        Checks.about("its subtags with - between them");
        form("en", "en");
        form("en_us", "en-US");
        form("en_latn_us_rozaj_u_co_abc_x_a", "en-Latn-US-rozaj-u-co-abc-x-a");
    }

    private static void language() {
        Checks.about("the language in small letters");
        form("EN", "en");
        form("eNG", "eng");
        form("UND", "und");
        Counted x = new Counted();
        Checks.alias(x, "EN=DEU", false);
        formIn(x, "en", "deu");
    }

    private static void script() {
        Checks.about("the script, its first letter capital, the others small");
        form("en-latn", "en-Latn");
        form("en-LATN", "en-Latn");
        form("en-lATN", "en-Latn");
        form("en-zzzz", "en-Zzzz");
        form("en-aaaa", "en-Aaaa");
    }

    private static void region() {
        Checks.about("the region in capitals");
        form("en-us", "en-US");
        form("en-uS", "en-US");
        form("en-az", "en-AZ");
        form("en-019", "en-019");
        Counted x = new Counted();
        Checks.alias(x, "840=us", true);
        Checks.alias(x, "gb=826", true);
        formIn(x, "en-840", "en-US");
        formIn(x, "en-gb", "en-826");
    }

    private static void smallLettersBehind() {
        Checks.about("all that follows in small letters");
        form("en-ROZAJ-1ABC", "en-1abc-rozaj");
        form("en-U-CO-ABC-1A", "en-u-1a-co-abc");
        form("en-X-A-AB-ABCD-ROZAJ", "en-x-a-ab-abcd-rozaj");
    }

    private static void variantsByCharacters() {
        Checks.about("the variants in the order of their characters");
        form("en-rozaj-biske", "en-biske-rozaj");
        form("en-biske-rozaj", "en-biske-rozaj");
        form("en-abcdefgz-abcdefga", "en-abcdefga-abcdefgz");
        form("en-zzzzz-abcdefgh-mmmmmm-bbbbb", "en-abcdefgh-bbbbb-mmmmmm-zzzzz");
        form("en-ROZAJ-biske-Abcde", "en-abcde-biske-rozaj");
    }

    private static void digitsBeforeLetters() {
        Checks.about("digits before letters");
        form("en-abcde-1abc", "en-1abc-abcde");
        form("en-abcda-abcd9", "en-abcd9-abcda");
        form("en-abcde-99999999", "en-99999999-abcde");
        form("en-1abc-19941", "en-19941-1abc");
        form("en-u-aa-9a", "en-u-9a-aa");
        form("en-u-9z-0z-za", "en-u-0z-9z-za");
    }

    private static void shorterBeforeLonger() {
        Checks.about("a shorter one before a longer one that begins with it");
        form("en-rozajx-rozaj", "en-rozaj-rozajx");
        form("en-rozaj-rozajx", "en-rozaj-rozajx");
        form("en-1abc0-1abc", "en-1abc-1abc0");
        form("en-abcdefgh-abcdefg-abcdef-abcde", "en-abcde-abcdef-abcdefg-abcdefgh");
    }

    private static void keywordsByKeys() {
        Checks.about("its keywords in the order of their keys");
        form("en-u-nu-co", "en-u-co-nu");
        form("en-u-co-nu", "en-u-co-nu");
        form("en-u-nu-aaa-co-zzz", "en-u-co-zzz-nu-aaa");
        form("en-u-cz-ca-bz", "en-u-bz-ca-cz");
        form("en-u-nu-latn-co-phonebk-1a-abc", "en-u-1a-abc-co-phonebk-nu-latn");
    }

    private static void typesAsTheyCame() {
        Checks.about("a keyword: a key with its types behind it");
        form("en-u-co-zzz-aaa", "en-u-co-zzz-aaa");
        form("en-u-nu-zzz-aaa-co-mmm-bbb", "en-u-co-mmm-bbb-nu-zzz-aaa");
        form("en-u-co-abc-abc", "en-u-co-abc-abc");
    }

    private static void onlyTypeTrue() {
        Checks.about("a keyword's only type is left out if it is true");
        form("en-u-co-true", "en-u-co");
        form("en-u-co-TRUE", "en-u-co");
        form("en-u-nu-true-co-true", "en-u-co-nu");
        form("en-u-co-true-x-a", "en-u-co-x-a");
        form("en-u-co-true-nu-abc", "en-u-co-nu-abc");
        form("en-u-nu-true-co-abc", "en-u-co-abc-nu");
    }

    private static void trueBesideAnother() {
        Checks.about("true that is not the only type is not left out");
        form("en-u-co-true-abc", "en-u-co-true-abc");
        form("en-u-co-abc-true", "en-u-co-abc-true");
        form("en-u-co-true-true", "en-u-co-true-true");
        form("en-u-co-tru", "en-u-co-tru");
        form("en-u-co-true1", "en-u-co-true1");
        form("en-u-co-false", "en-u-co-false");
    }

    private static void trueElsewhere() {
        Checks.about("true that is no type is not left out");
        form("en-true", "en-True");
        form("en-x-true", "en-x-true");
        form("en-u-co-x-true", "en-u-co-x-true");
    }

    private static void privateAsTheyCame() {
        Checks.about("the private subtags as they came");
        form("en-x-z-a", "en-x-z-a");
        form("en-x-a-a-1-a", "en-x-a-a-1-a");
        form("en-x-rozaj-biske-u-nu-co-true", "en-x-rozaj-biske-u-nu-co-true");
    }

    private static void longestForm() {
        Checks.about("a form may be longer than what was typed");
        Counted x = new Counted();
        Checks.alias(x, "ab=abc", false);
        Checks.alias(x, "us=840", true);
        String typed = "ab-us-x-12" + "-1".repeat(25);
        Checks.due("characters typed", typed.length(), 60);
        Checks.due("read", Checks.read(x, typed), 0);
        String want = "abc-840" + typed.substring(5);
        Checks.due("show(0, 0)", x.show(0, 0), want.length());
        for (int i = 0; i < want.length(); i++) {
            Checks.due("shown(" + i + ")", x.shown(i), want.charAt(i));
        }
        Checks.due("behind the last one", x.shown(want.length()), ' ');
    }

    private static void shortForm() {
        Checks.about("the short form has language, script and region alone");
        String[][] both = {{"en", "en"}, {"en-latn", "en-Latn"}, {"en-us", "en-US"},
            {"en-latn-us", "en-Latn-US"}, {"en-rozaj", "en"}, {"en-u-us", "en"}, {"en-x-us", "en"},
            {"en-latn-us-1abc-u-co-abc-x-a", "en-Latn-US"}, {"en-840-x-latn", "en-840"}};
        for (String[] one : both) {
            Counted x = new Counted();
            Checks.read(x, one[0]);
            Checks.due("short form of " + one[0], Checks.show(x, 0, 1), one[1]);
        }
    }

    private static void plain() {
        Checks.about("a tag is plain if its form is the short one");
        for (String text : new String[] {"en", "en-Latn", "en-US", "EN_latn_us"}) {
            Counted x = new Counted();
            Checks.due("from " + text, Checks.parent(x, text + "=zz"), 1);
            Checks.due("to " + text, Checks.parent(x, "zz=" + text), 2);
        }
        for (String text : new String[] {"en-rozaj", "en-1abc", "en-u-co", "en-u-co-true", "en-x-a",
            "en-Latn-US-rozaj", "en-Latn-US-x-a"}) {
            Counted x = new Counted();
            Checks.due("from " + text, Checks.parent(x, text + "=zz"), -1);
            Checks.due("to " + text, Checks.parent(x, "zz=" + text), -1);
        }
    }

    private static void sameForm() {
        Checks.about("no two tags with the same form");
        String[][] same = {{"en-us", "EN_US"}, {"en-rozaj-biske", "en-biske-rozaj"},
            {"en-u-co-true", "en-u-co"}, {"en-u-nu-co", "en-u-co-nu"}, {"en-x-A", "en-x-a"}};
        String[][] different = {{"en", "eng"}, {"en-latn", "en-latnn"}, {"en-us", "en-840"},
            {"en-x-a-b", "en-x-b-a"}, {"en-u-co-true-abc", "en-u-co-abc"}, {"en-us", "en-x-us"},
            {"en-x-ab", "en-x-a-b"}, {"en-u-co-abc-abd", "en-u-co-abd-abc"},
            {"en-x-a", "en-x-a-a"}, {"en-u-us", "en-us"}};
        for (String[] two : same) {
            Counted x = new Counted();
            Checks.read(x, two[0]);
            Checks.due(two[0] + " and " + two[1], Checks.read(x, two[1]), 0);
        }
        for (String[] two : different) {
            Counted x = new Counted();
            Checks.read(x, two[0]);
            Checks.due(two[0] + " and " + two[1], Checks.read(x, two[1]), 1);
        }
    }
}
