/** What each promise of the document says: the ordinary, the edges, and wrong inputs. */
public final class PromisesTest {
    private static final int LEAST = Integer.MIN_VALUE;
    private static final int MOST = Integer.MAX_VALUE;

    private PromisesTest() {
    }

    public static void main(String[] args) {
        newObject();
        typing();
        wiping();
        aliases();
        aliasesRefused();
        readingWhatIsNoTag();
        readingForms();
        readingNumbers();
        pairs();
        pairsRefused();
        showing();
        maximising();
        minimising();
        shownCharacters();
        countingTags();
        supporting();
        fitting();
        lookingUp();
        distances();
        nearest();
        putting();
        getting();
        gettingByParents();
        finding();
        Checks.finish();
    }

    private static void newObject() {
        Counted x = new Counted();
        Checks.due("new: tags()", x.tags(), 0);
        Checks.due("new: found()", x.found(), 0);
        Checks.due("new: shown(0)", x.shown(0), ' ');
        Checks.due("new: read()", x.read(), -1000);
        Checks.due("new: alias", x.alias(false), -1);
        Checks.due("new: pair", x.pair(true), -1);
        Checks.due("new: support(0)", x.support(0), false);
        Checks.due("new: lookup(0)", x.lookup(0), -1);
        Checks.due("new: best(0)", x.best(0), -1);
        Checks.due("new: get(0, 0)", x.get(0, 0), 0);
        Checks.due("new: show(0, 0)", x.show(0, 0), -1);
        Checks.due("new: read en", Checks.read(x, "en"), 0);
        Checks.due("new: none supported", x.lookup(0), -1);
        Checks.due("new: none given", x.get(0, 0), 0);
        Counted other = new Counted();
        Checks.due("an object has nothing of another one", other.tags(), 0);
    }

    private static void typing() {
        Counted x = new Counted();
        for (int c = 0; c < 65536; c++) {
            boolean may = c >= 'a' && c <= 'z' || c >= 'A' && c <= 'Z' || c >= '0' && c <= '9'
                    || c == '-' || c == '_' || c == '=';
            Checks.due("type of character " + c, new Counted().type((char) c), may);
        }
        for (int i = 0; i < 60; i++) {
            Checks.due("type number " + i, x.type('a'), true);
        }
        Checks.due("type when there are 60", x.type('a'), false);
        Checks.due("read of 60", x.read(), -1000);
        Counted y = new Counted();
        Checks.typed(y, "en");
        Checks.due("a wrong character", y.type(' '), false);
        Checks.due("a wrong character stands nowhere", y.read(), 0);
        String longest = "en-x-1-1-1-1-1-1-1-1-1-1-1-1-1-1-1-1-1-1-1-1-1-1-1-1-1-1-1-1";
        Checks.due("read of a tag of 60", Checks.read(y, longest), 1);
        Checks.due("form of a tag of 60", Checks.show(y, 1, 0), longest);
    }

    private static void wiping() {
        Counted x = new Counted();
        Checks.typed(x, "e-e");
        x.wipe();
        Checks.due("nothing typed", x.read(), -1000);
        Checks.typed(x, "fr");
        Checks.due("read behind a wipe", x.read(), 0);
        Checks.due("form behind a wipe", Checks.show(x, 0, 0), "fr");
        x.wipe();
        Checks.due("wipe leaves tags", x.tags(), 1);
        Checks.due("wipe leaves what is shown", Checks.shown(x), "fr");
    }

    private static void aliases() {
        Counted x = new Counted();
        Checks.due("alias iw=he", Checks.alias(x, "IW=he", false), 1);
        Checks.due("type behind an alias", x.type('e'), true);
        Checks.due("nothing else is typed", x.read(), -1000);
        Checks.due("type again", x.type('n') && x.type('-'), true);
        Checks.due("nothing else is typed", x.read(), -1003);
        Checks.due("alias he=heb", Checks.alias(x, "he=heb", false), 2);
        Checks.due("alias of a region", Checks.alias(x, "su=RU", true), 3);
        Checks.due("alias of a region in digits", Checks.alias(x, "810=su", true), 4);
        Checks.due("the same letters as region", Checks.alias(x, "he=iw", true), 5);
        Checks.due("to one that is replaced elsewhere", Checks.alias(x, "zz=iw", false), 6);
        Checks.due("a seventh", Checks.alias(x, "ab=abc", false), 7);
        Checks.due("an eighth", Checks.alias(x, "us=840", true), 8);
        Checks.due("a ninth", Checks.alias(x, "ac=abc", false), -2);
        Checks.due("read iw", Checks.read(x, "iw-810"), 0);
        Checks.due("replaced and replaced again", Checks.show(x, 0, 0), "heb-RU");
        Checks.due("read zz", Checks.read(x, "zz-he"), 1);
        Checks.due("a region by region aliases alone", Checks.show(x, 1, 0), "heb-IW");
        Checks.due("the same form", Checks.read(x, "heb-su"), 0);
        Checks.due("read su", Checks.read(x, "su-US-u-he-x-iw-810"), 2);
        Checks.due("language and region alone", Checks.show(x, 2, 0), "su-840-u-he-x-iw-810");
        String growing = "ab-us-x-1-1-1-1-1-1-1-1-1-1-1-1-1-1-1-1-1-1-1-1-1-1-1-12-123";
        Checks.due("read of one that grows", Checks.read(x, growing), 3);
        Checks.due("a form longer than what was typed", Checks.show(x, 3, 0),
                "abc-840" + growing.substring(5));
    }

    private static void aliasesRefused() {
        Counted x = new Counted();
        String[] wrong = {"", "=", "aa", "aa=", "=aa", "aa=aa", "aa=AA", "a=bb", "aa=b",
            "aaaa=bb", "aa=bbbb", "aa==bb", "aa=bb=cc", "aa=bb=", "=aa=bb", "a1=bb", "aa=b1",
            "aa-bb=cc", "aa=bb-cc", "aa_=bb", "123=bb", "aa=123", "aa-bb"};
        for (String text : wrong) {
            Checks.due("language alias " + text, Checks.alias(x, text, false), -1);
        }
        String[] wrongRegions = {"", "us", "us=", "us=US", "usa=us", "us=usa", "84=us", "us=84",
            "8401=us", "us=8a0", "u1=us", "us=gb=de", "us=-gb", "001=001"};
        for (String text : wrongRegions) {
            Checks.due("region alias " + text, Checks.alias(x, text, true), -1);
        }
        Checks.typed(x, "aa=b");
        Checks.due("too short", x.alias(false), -1);
        Checks.due("what is refused stays typed", x.type('b'), true);
        Checks.due("and is taken then", x.alias(false), 1);
        Checks.due("the first has one", Checks.alias(x, "AA=cc", false), -3);
        Checks.due("a ring of two", Checks.alias(x, "bb=aa", false), -3);
        Checks.due("a chain", Checks.alias(x, "bb=cc", false), 2);
        Checks.due("a ring of three", Checks.alias(x, "cc=aa", false), -3);
        Checks.due("a ring from the middle", Checks.alias(x, "cc=BB", false), -3);
        Checks.due("no ring with a region", Checks.alias(x, "cc=aa", true), 3);
        Checks.due("wrong before the ring", Checks.alias(x, "aa=aa", false), -1);

        Counted read = new Counted();
        Checks.read(read, "en");
        Checks.due("a tag was read", Checks.alias(read, "aa=bb", false), -2);
        Checks.due("wrong when a tag was read", Checks.alias(read, "aa=b", false), -1);
        Counted likely = new Counted();
        Checks.likely(likely, "en=en-Latn-US");
        Checks.due("a likely pair was taken", Checks.alias(likely, "aa=bb", true), -2);
        Checks.due("wrong when a pair was taken", Checks.alias(likely, "aa=bbb", true), -1);
        Counted parent = new Counted();
        Checks.parent(parent, "en-GB=en");
        Checks.due("a parent pair was taken", Checks.alias(parent, "aa=bb", false), -2);
        Counted refused = new Counted();
        Checks.read(refused, "e");
        Checks.likely(refused, "en=en");
        Checks.due("what was refused does not bar an alias",
                Checks.alias(refused, "aa=bb", false), 1);
        Counted full = new Counted();
        for (char c = 'a'; c <= 'h'; c++) {
            Checks.due("filling", Checks.alias(full, "a" + c + "=zz", false), c - 'a' + 1);
        }
        Checks.due("full before it has one", Checks.alias(full, "aa=bb", false), -2);
        Checks.due("full for regions too", Checks.alias(full, "aa=bb", true), -2);
    }

    private static void wrongAt(String text, int place) {
        Counted x = new Counted();
        Checks.due("read of " + text, Checks.read(x, text), -1000 - place);
        Checks.due("no tag of " + text, x.tags(), 0);
        Checks.due("again " + text, x.read(), -1000 - place);
    }

    private static void readingWhatIsNoTag() {
        String[] languages = {"", "e", "engl", "e1", "1e", "12", "123", "-", "_en", "-en", "x",
            "x-en", "u-co", "en=de", "=", "abcdefghi", "en=", "i-en", "e-US"};
        for (String text : languages) {
            wrongAt(text, 0);
        }
        String[] behind = {"en-", "en_", "en--US", "en-e", "en-1", "en-12", "en-e1", "en-1e",
            "en-eng", "en-12a", "en-lat1", "en-abcdefghi", "en-a-bc", "en-U=", "en-US=de",
            "en-123456789", "en-abcdefg="};
        for (String text : behind) {
            wrongAt(text, 3);
        }
        wrongAt("eng-", 4);
        wrongAt("en-US-Latn", 6);
        wrongAt("en-Latn-Latn", 8);
        wrongAt("en-US-GB", 6);
        wrongAt("en-US-840", 6);
        wrongAt("en-840-US", 7);
        wrongAt("en-rozaj-US", 9);
        wrongAt("en-rozaj-Latn", 9);
        wrongAt("en-rozaj-ROZAJ", 9);
        wrongAt("en-1abc-rozaj-1ABC", 14);
        wrongAt("en-Latn-US-abcd", 11);
        wrongAt("en-Latn-US-", 11);
        wrongAt("en-u", 4);
        wrongAt("en-U-", 5);
        wrongAt("en-u-x", 5);
        wrongAt("en-u-x-aa", 5);
        wrongAt("en-u-u", 5);
        wrongAt("en-u-abc", 5);
        wrongAt("en-u-a1", 5);
        wrongAt("en-u-11", 5);
        wrongAt("en-u-co-a", 8);
        wrongAt("en-u-co-a1", 8);
        wrongAt("en-u-co-abc-co", 12);
        wrongAt("en-u-co-nu-Co", 11);
        wrongAt("en-u-co-u-nu", 8);
        wrongAt("en-u-co-abcdefghi", 8);
        wrongAt("en-u-co-", 8);
        wrongAt("en-x", 4);
        wrongAt("en-X-", 5);
        wrongAt("en-u-co-x", 9);
        wrongAt("en-x-abcdefghi", 5);
        wrongAt("en-x-a-", 7);
        wrongAt("en-x-a--b", 7);
        wrongAt("en-x-a-=", 7);
        wrongAt("en-x-1-1-1-1-1-1-1-1-1-1-1-1-1-1-1-1-1-1-1-1-1-1-1-1-1-1-1-_", 59);
        wrongAt("e-" + "-".repeat(58), 0);
        wrongAt("en" + "_".repeat(58), 3);
        wrongAt("en-x-1-1-1-1-1-1-1-1-1-1-1-1-1-1-1-1-1-1-1-1-1-1-1-1-1-1-1--", 59);
    }

    private static void form(String text, String want) {
        Checks.due("form of " + text, Checks.formOf(text), want);
    }

    private static void readingForms() {
        form("EN", "en");
        form("DEU", "deu");
        form("zh_hANT_tw", "zh-Hant-TW");
        form("sr-CYRL", "sr-Cyrl");
        form("es-419", "es-419");
        form("en-us", "en-US");
        form("sl-ROZAJ-biske-1994", "sl-1994-biske-rozaj");
        form("sl-rozajx-rozaj", "sl-rozaj-rozajx");
        form("sl-abcde-abcd1-1zzz-19941", "sl-19941-1zzz-abcd1-abcde");
        form("en-abcdefgh-12345678", "en-12345678-abcdefgh");
        form("en-Latn-1ABC", "en-Latn-1abc");
        form("de-DE-U-CO-PHONEBK", "de-DE-u-co-phonebk");
        form("de-u-nu-latn-co-phonebk-1a-abc", "de-u-1a-abc-co-phonebk-nu-latn");
        form("de-u-ab-aa-1b-0z", "de-u-0z-1b-aa-ab");
        form("de-u-co-TRUE", "de-u-co");
        form("de-u-nu-true-co-true-abc", "de-u-co-true-abc-nu");
        form("de-u-co-abc-true", "de-u-co-abc-true");
        form("de-u-co-true-true", "de-u-co-true-true");
        form("de-u-co-zzz-aaa", "de-u-co-zzz-aaa");
        form("de-u-co-true1", "de-u-co-true1");
        form("de-u-co-12345678", "de-u-co-12345678");
        form("de-u-co-tru", "de-u-co-tru");
        form("de-u-co-true-x-true", "de-u-co-x-true");
        form("de-x-TRUE", "de-x-true");
        form("de-X-Z-a-Z-u-x-co-US-Latn", "de-x-z-a-z-u-x-co-us-latn");
        form("und", "und");
        form("en_Latn-us_rozaj-u_nu_x_B-A", "en-Latn-US-rozaj-u-nu-x-b-a");
    }

    private static void readingNumbers() {
        Counted x = new Counted();
        Checks.due("the first", Checks.read(x, "en-US"), 0);
        Checks.due("nothing is typed then", x.read(), -1000);
        Checks.due("another", Checks.read(x, "en"), 1);
        Checks.due("the same in other letters", Checks.read(x, "EN_us"), 0);
        Checks.due("nothing is typed behind an old one", x.read(), -1000);
        Checks.due("no more tags", x.tags(), 2);
        for (int i = 2; i < 16; i++) {
            Checks.due("more", Checks.read(x, "en-x-" + i), i);
        }
        Checks.due("a seventeenth", Checks.read(x, "fr"), -1);
        Checks.due("it stays typed", x.type('e'), true);
        Checks.due("and is still new", x.read(), -1);
        Checks.due("and stays", x.type('-'), true);
        Checks.due("no tag when full", x.read(), -1004);
        Checks.due("an old one when full", Checks.read(x, "en-X-15"), 15);
        Checks.due("sixteen", x.tags(), 16);
    }

    private static void pairs() {
        Counted x = new Counted();
        Checks.due("likely", Checks.likely(x, "EN=en_latn_us"), 1);
        Checks.due("type behind a pair", x.type('e') && x.type('n') && x.type('-'), true);
        Checks.due("nothing else is typed", x.read(), -1003);
        Checks.due("likely from itself", Checks.likely(x, "de-Latn-DE=de-Latn-DE"), 2);
        Checks.due("likely from und", Checks.likely(x, "und-Cyrl=ru-Cyrl-RU"), 3);
        Checks.due("parent counts by itself", Checks.parent(x, "en-AU=en-GB"), 1);
        Checks.due("parent from one subtag", Checks.parent(x, "en=und"), 2);
        Checks.due("parent back", Checks.parent(x, "en-GB=en-AU"), 3);
        Checks.due("likely from what a parent leads from", Checks.likely(x, "en-AU=en-Latn-AU"), 4);
        for (int i = 4; i < 10; i++) {
            Checks.due("likely more", Checks.likely(x, "a" + (char) ('a' + i) + "=zz-Zzzz-ZZ"), i + 1);
            Checks.due("parent more", Checks.parent(x, "a" + (char) ('a' + i) + "=zz"), i);
        }
        Checks.due("likely is full", Checks.likely(x, "ba=zz-Zzzz-ZZ"), -2);
        Checks.due("parent is not", Checks.parent(x, "ba=zz"), 10);
        Checks.due("parent is full", Checks.parent(x, "bb=zz"), -2);
        Checks.due("wrong when full", Checks.parent(x, "bb=bb"), -1);
        Checks.due("pairs read no tags", x.tags(), 0);
        Checks.due("read of one without pairs", Checks.read(x, "fr-Latn"), 0);
        Checks.due("no pair leads from it", Checks.show(x, 0, 2), "fr-Latn");
        Checks.due("no value", x.get(0, 0), 0);
        Counted late = new Counted();
        Checks.read(late, "en");
        Checks.due("likely behind a tag", Checks.likely(late, "en=en-Latn-US"), 1);
        Checks.due("it holds for old tags", Checks.show(late, 0, 2), "en-Latn-US");
    }

    private static void pairsRefused() {
        Counted x = new Counted();
        Checks.alias(x, "iw=he", false);
        String[] never = {"", "=", "en", "en=", "=en-Latn-US", "en==en-Latn-US", "en=en-Latn-US=",
            "en=en-Latn-US=de", "e=en-Latn-US", "en-=en-Latn-US", "en=en-Latn-US-",
            "en-rozaj=en-Latn-US", "en=en-Latn-US-rozaj", "en-u-co=en-Latn-US",
            "en=en-Latn-US-u-co", "en-x-a=en-Latn-US", "en=en-Latn-US-x-a", "en-u=en-Latn-US",
            "=en=en-Latn-US", "en-Latn-US"};
        for (String text : never) {
            Checks.due("likely pair " + text, Checks.likely(x, text), -1);
            Checks.due("parent pair " + text, x.pair(true), -1);
        }
        for (String text : new String[] {"en=en", "en=en-Latn", "en=en-US", "en=de"}) {
            Checks.due("likely pair " + text, Checks.likely(x, text), -1);
        }
        for (String text : new String[] {"en=en", "en-us=EN_US", "iw=he", "he-US=iw-us"}) {
            Checks.due("parent pair " + text, Checks.parent(x, text), -1);
        }
        Checks.due("as a parent pair", Checks.parent(x, "en-Latn=en"), 1);
        Checks.typed(x, "en=en-Latn-U");
        Checks.due("too short", x.pair(false), -1);
        Checks.due("what is refused stays typed", x.type('S'), true);
        Checks.due("and is taken then", x.pair(false), 1);
        Checks.due("the same first", Checks.likely(x, "EN=fr-Latn-FR"), -2);
        Checks.due("parent of the same first", Checks.parent(x, "EN_latn=fr"), -2);
        Checks.due("by its form", Checks.likely(x, "iw=he-Hebr-IL"), 2);
        Checks.due("the same first by its form", Checks.likely(x, "he=he-Hebr-IL"), -2);
        Checks.due("the first one stays", Checks.read(x, "en"), 0);
        Checks.due("maximised by the first", Checks.show(x, 0, 2), "en-Latn-US");
    }

    private static void showing() {
        Counted x = new Counted();
        Checks.read(x, "en-us-rozaj-u-co-x-a");
        Checks.due("form", Checks.show(x, 0, 0), "en-US-rozaj-u-co-x-a");
        Checks.due("short form", Checks.show(x, 0, 1), "en-US");
        Checks.due("maximised without pairs", Checks.show(x, 0, 2), "en-US");
        Checks.due("minimised without pairs", Checks.show(x, 0, 3), "en-US");
        int[][] wrong = {{1, 0}, {-1, 0}, {0, 4}, {0, -1}, {16, 1}, {LEAST, 2}, {MOST, 3},
            {0, LEAST}, {0, MOST}};
        for (int[] call : wrong) {
            Checks.due("show(" + call[0] + ", " + call[1] + ")", x.show(call[0], call[1]), -1);
        }
        Checks.due("what was refused shows nothing", Checks.shown(x), "en-US");
        Checks.likely(x, "en=en-Latn-US");
        Checks.due("what is shown stays", Checks.shown(x), "en-US");
        Checks.due("maximised with a pair", Checks.show(x, 0, 2), "en-Latn-US");
        Checks.due("minimised with a pair", Checks.show(x, 0, 3), "en");
        Checks.due("the form is as before", Checks.show(x, 0, 0), "en-US-rozaj-u-co-x-a");
    }

    private static void maximised(Counted x, String text, String want) {
        Checks.due("maximised " + text, Checks.show(x, Checks.read(x, text), 2), want);
    }

    private static void maximising() {
        Counted x = new Counted();
        Checks.likely(x, "zh=zh-Hans-CN");
        Checks.likely(x, "zh-TW=zh-Hant-TW");
        Checks.likely(x, "zh-Hant=zh-Hant-HK");
        Checks.likely(x, "und-Arab=ar-Arab-EG");
        Checks.likely(x, "und=en-Latn-US");
        Checks.likely(x, "und-Latn-DE=de-Latn-AT");
        Checks.likely(x, "und-GB=cy-Cyrl-US");
        Checks.likely(x, "fr-Latn-FR=zz-Zzzz-ZZ");
        maximised(x, "zh", "zh-Hans-CN");
        maximised(x, "zh-TW", "zh-Hant-TW");
        maximised(x, "zh-Hant", "zh-Hant-HK");
        maximised(x, "zh-US", "zh-Hans-US");
        maximised(x, "zh-Latn", "zh-Latn-CN");
        maximised(x, "fa-Arab", "fa-Arab-EG");
        maximised(x, "fr-Latn-FR", "fr-Latn-FR");
        maximised(x, "fr-Latn", "fr-Latn");
        maximised(x, "fr", "fr");
        maximised(x, "fr-FR", "fr-FR");
        maximised(x, "und", "en-Latn-US");
        maximised(x, "und-Latn-DE", "de-Latn-DE");
        maximised(x, "und-Latn-GB", "cy-Latn-GB");
        maximised(x, "und-Arab-FR", "ar-Arab-FR");
        maximised(x, "und-Hans-FR", "en-Hans-FR");
        maximised(x, "und-FR", "en-Latn-FR");
        Counted y = new Counted();
        Checks.alias(y, "und=en", false);
        Checks.alias(y, "xx=und", false);
        Checks.likely(y, "und-Arab=ar-Arab-EG");
        maximised(y, "und-Arab", "en-Arab-EG");
        maximised(y, "fa-Arab", "fa-Arab");
        maximised(y, "xx", "en");
    }

    private static void minimised(Counted x, String text, String want) {
        Checks.due("minimised " + text, Checks.show(x, Checks.read(x, text), 3), want);
    }

    private static void minimising() {
        Counted x = new Counted();
        Checks.likely(x, "zh=zh-Hans-CN");
        Checks.likely(x, "zh-TW=zh-Hant-TW");
        Checks.likely(x, "zh-Hant=zh-Hant-HK");
        Checks.likely(x, "und=en-Latn-US");
        Checks.likely(x, "en=en-Latn-US");
        minimised(x, "zh-Hans-CN", "zh");
        minimised(x, "zh-Hant-TW", "zh-TW");
        minimised(x, "zh-Hant", "zh-Hant");
        minimised(x, "zh-Hant-HK", "zh-Hant");
        minimised(x, "zh-Hans-TW", "zh-Hans-TW");
        minimised(x, "zh-Hans-US", "zh-US");
        minimised(x, "zh-Latn-CN", "zh-Latn");
        minimised(x, "zh-Latn-US", "zh-Latn-US");
        minimised(x, "und", "en");
        minimised(x, "und-GB", "en-GB");
        minimised(x, "fr", "fr");
        minimised(x, "fr-FR", "fr-FR");
        minimised(x, "fr-Latn", "fr-Latn");
        minimised(x, "fr-Latn-FR", "fr-Latn-FR");
        Counted y = new Counted();
        Checks.likely(y, "und=und-Latn-US");
        minimised(y, "und-Latn-US", "und");
        Checks.likely(y, "de-DE=de-Latn-DE");
        Checks.likely(y, "de-Latn=de-Latn-DE");
        minimised(y, "de-Latn-DE", "de-DE");
    }

    private static void shownCharacters() {
        Counted x = new Counted();
        Checks.read(x, "en-US");
        x.show(0, 0);
        String text = "en-US";
        for (int i = 0; i < 5; i++) {
            Checks.due("shown(" + i + ")", x.shown(i), text.charAt(i));
        }
        for (int i : new int[] {5, 6, 61, 62, 64, -1, LEAST, MOST}) {
            Checks.due("shown(" + i + ")", x.shown(i), ' ');
        }
        Checks.read(x, "de");
        x.show(1, 0);
        Checks.due("nothing of a longer one before", x.shown(2), ' ');
        Checks.due("nothing of a longer one before", x.shown(4), ' ');
    }

    private static void countingTags() {
        Counted x = new Counted();
        for (int i = 0; i < 20; i++) {
            Checks.due("tags()", x.tags(), Math.min(i, 16));
            Checks.read(x, "en-x-" + i);
            Checks.read(x, "e");
        }
    }

    private static void supporting() {
        Counted x = new Counted();
        Checks.read(x, "en");
        Checks.read(x, "de");
        for (int t : new int[] {-1, 2, 15, 16, LEAST, MOST}) {
            Checks.due("support(" + t + ")", x.support(t), false);
        }
        Checks.due("not supported yet", x.lookup(1), -1);
        Checks.due("support(1)", x.support(1), true);
        Checks.due("supported", x.lookup(1), 1);
        Checks.due("support(1) again", x.support(1), false);
        Checks.due("support(0)", x.support(0), true);
        Checks.due("supported", x.lookup(0), 0);
        Counted all = new Counted();
        for (int i = 0; i < 16; i++) {
            Checks.read(all, "en-x-" + i);
            Checks.due("all can be", all.support(i), true);
        }
        Checks.due("the last one too", all.lookup(15), 15);
    }

    private static void fit(String range, String text, boolean want) {
        Counted x = new Counted();
        Checks.alias(x, "iw=he", false);
        int r = Checks.read(x, range);
        int t = Checks.read(x, text);
        Checks.due(text + " fits " + range, x.fits(r, t), want);
    }

    private static void fitting() {
        fit("de", "de", true);
        fit("de", "de-Latn-DE-x-a", true);
        fit("de", "deu", false);
        fit("de-DE", "de", false);
        fit("de-DE", "de-Latn-DE", true);
        fit("de-DE", "de-DE-1996-u-co", true);
        fit("de-DE", "de-Latn-AT", false);
        fit("de-DE", "de-x-de", false);
        fit("de-Latn", "de-x-latn", false);
        fit("de-1996", "de-DE-1901-1996", true);
        fit("de-1996", "de-DE-u-co-1996", false);
        fit("de-u-co", "de-DE-1996-u-co", true);
        fit("de-u-nu", "de-u-co-abc-nu", true);
        fit("de-u-co-latn", "de-u-co-nu-latn", true);
        fit("de-u-nu", "de-u-co-x-nu", false);
        fit("de-x-b", "de-x-a-b", false);
        fit("de-x-b", "de-x-aa-b", true);
        fit("de-x-a", "de-u-co-x-a", false);
        fit("de-x-aa", "de-DE-x-bb-aa", true);
        fit("de-x-aa-aa", "de-x-aa", false);
        fit("de-Latn-DE", "de-DE", false);
        fit("und", "de", false);
        fit("und-DE", "de-DE", false);
        fit("iw", "he-IL", true);
        fit("he-il", "iw_Hebr_IL", true);
        fit("fr-FR", "de-FR", false);
        Counted x = new Counted();
        Checks.read(x, "en");
        for (int t : new int[] {-1, 1, 16, LEAST, MOST}) {
            Checks.due("fits(0, " + t + ")", x.fits(0, t), false);
            Checks.due("fits(" + t + ", 0)", x.fits(t, 0), false);
            Checks.due("fits(" + t + ", same)", x.fits(t, t), false);
        }
        Checks.due("fits itself", x.fits(0, 0), true);
    }

    private static void lookingUp() {
        Counted x = new Counted();
        int full = Checks.read(x, "zh-Hant-CN-1abc-u-co-phonebk-x-a-b");
        int en = Checks.read(x, "en-x-a-b");
        String[] behind = {"zh", "zh-Hant", "zh-Hant-CN", "zh-Hant-CN-1abc",
            "zh-Hant-CN-1abc-u-co", "zh-Hant-CN-1abc-u-co-phonebk"};
        Checks.due("none supported", x.lookup(full), -1);
        for (String text : behind) {
            int t = Checks.read(x, text);
            Checks.due("read is not supported", x.lookup(full) == t, false);
            x.support(t);
            Checks.due("lookup comes to " + text, x.lookup(full), t);
        }
        x.support(full);
        Checks.due("the form itself", x.lookup(full), full);
        Checks.due("only by truncating", x.lookup(en), -1);
        int one = Checks.read(x, "en-x-a");
        x.support(one);
        Checks.due("a and b go at once", x.lookup(en), -1);
        int language = Checks.read(x, "en");
        x.support(language);
        Checks.due("then x", x.lookup(en), language);
        Checks.due("a goes with x", x.lookup(one), one);
        for (int t : new int[] {-1, 11, 16, LEAST, MOST}) {
            Checks.due("lookup(" + t + ")", x.lookup(t), -1);
        }
        Counted y = new Counted();
        Checks.read(y, "en-u-co-true-abc");
        y.support(Checks.read(y, "en-u-co-true"));
        Checks.due("truncated to co, by way of co-true", y.lookup(0), 1);
        Checks.read(y, "en-US");
        y.support(Checks.read(y, "en-Latn"));
        Checks.due("nothing but what is left", y.lookup(2), -1);
    }

    private static void apart(Counted x, String a, String b, int want) {
        int first = Checks.read(x, a);
        int second = Checks.read(x, b);
        Checks.due("distance of " + a + " and " + b, x.distance(first, second), want);
        Checks.due("distance of " + b + " and " + a, x.distance(second, first), want);
    }

    private static void distances() {
        Counted x = new Counted();
        apart(x, "en", "en", 0);
        apart(x, "en", "de", 80);
        apart(x, "en-Latn", "en", 40);
        apart(x, "en-Latn", "en-Cyrl", 40);
        apart(x, "en-US", "en-GB", 5);
        apart(x, "en-US", "en", 2);
        apart(x, "en-Latn-US", "de-Cyrl-GB", 125);
        apart(x, "en-Latn-US", "de", 122);
        apart(x, "en-rozaj-u-co", "en-x-a", 0);
        apart(x, "en-Latn-GB", "en", 42);
        Checks.likely(x, "en=en-Latn-US");
        apart(x, "en", "en-Latn-US", 0);
        apart(x, "en", "en-GB", 5);
        apart(x, "en", "en-Cyrl", 40);
        apart(x, "en", "de", 122);
        int end = x.tags();
        for (int t : new int[] {-1, end, 16, LEAST, MOST}) {
            Checks.due("distance(0, " + t + ")", x.distance(0, t), -1);
            Checks.due("distance(" + t + ", 0)", x.distance(t, 0), -1);
            Checks.due("distance(" + t + ", same)", x.distance(t, t), -1);
        }
    }

    private static void nearest() {
        Counted x = new Counted();
        int us = Checks.read(x, "en-Latn-US");
        int gb = Checks.read(x, "en-Latn-GB");
        int au = Checks.read(x, "en-Latn-AU");
        int de = Checks.read(x, "de-Latn-US");
        int plain = Checks.read(x, "en-Latn");
        int cyrl = Checks.read(x, "en-Cyrl-AU");
        Checks.due("none supported", x.best(us), -1);
        x.support(de);
        Checks.due("80 is too far", x.best(us), -1);
        x.support(cyrl);
        Checks.due("45 is not too far", x.best(us), cyrl);
        Checks.due("40", x.best(au), cyrl);
        Checks.due("125 and 80", x.best(de), de);
        x.support(gb);
        x.support(us);
        Checks.due("of several the first", x.best(au), gb);
        Checks.due("the nearest", x.best(us), us);
        x.support(plain);
        Checks.due("2 before 5", x.best(au), plain);
        Checks.due("2 and 2 and 0", x.best(plain), plain);
        x.support(au);
        Checks.due("itself", x.best(au), au);
        for (int t : new int[] {-1, 6, 16, LEAST, MOST}) {
            Checks.due("best(" + t + ")", x.best(t), -1);
        }
    }

    private static void putting() {
        Counted x = new Counted();
        Checks.due("no tag", x.put(0, 0, 1), false);
        Checks.read(x, "en");
        int[][] wrong = {{-1, 0}, {1, 0}, {16, 0}, {LEAST, 0}, {MOST, 0}, {0, -1}, {0, 8},
            {0, LEAST}, {0, MOST}};
        for (int[] call : wrong) {
            Checks.due("put(" + call[0] + ", " + call[1] + ", 5)", x.put(call[0], call[1], 5), false);
        }
        for (int key = 0; key < 8; key++) {
            Checks.due("nothing yet", x.get(0, key), 0);
            Checks.due("put", x.put(0, key, 10 + key), true);
        }
        for (int key = 0; key < 8; key++) {
            Checks.due("get", x.get(0, key), 10 + key);
        }
        Checks.due("put again", x.put(0, 3, LEAST), true);
        Checks.due("the later one", x.get(0, 3), LEAST);
        Checks.due("put 0", x.put(0, 3, 0), true);
        Checks.due("0 is a value", x.get(0, 3), 0);
        Checks.due("that is found", x.found(), 1);
        Checks.read(x, "de");
        Checks.due("another tag has none", x.get(1, 0), 0);
        Checks.due("and finds none", x.found(), 0);
    }

    private static void got(Counted x, int t, int value, int place) {
        Checks.due("get(" + t + ", 0)", x.get(t, 0), value);
        Checks.due("found() behind get(" + t + ", 0)", x.found(), place);
    }

    private static void getting() {
        Counted x = new Counted();
        int whole = Checks.read(x, "en-Latn-US-u-co-abc-x-a-b");
        int en = Checks.read(x, "en");
        int latn = Checks.read(x, "en-Latn");
        got(x, whole, 0, 0);
        x.put(en, 0, 7);
        got(x, whole, 7, 7);
        got(x, en, 7, 1);
        x.put(latn, 0, -8);
        got(x, whole, -8, 6);
        got(x, en, 7, 1);
        x.put(latn, 1, 9);
        Checks.due("another key", x.get(whole, 1), 9);
        int co = Checks.read(x, "en-Latn-US-u-co");
        x.put(co, 0, 6);
        got(x, whole, 6, 4);
        x.put(whole, 0, 5);
        got(x, whole, 5, 1);
        int[][] wrong = {{-1, 0}, {4, 0}, {LEAST, 0}, {MOST, 0}, {0, -1}, {0, 8}, {0, MOST}};
        for (int[] call : wrong) {
            x.get(whole, 0);
            Checks.due("get(" + call[0] + ", " + call[1] + ")", x.get(call[0], call[1]), 0);
            Checks.due("it found none", x.found(), 0);
        }
        Counted y = new Counted();
        int twelve = Checks.read(y, "en-x-11-10-99-88-77-66-55-44-33-22");
        int eleven = Checks.read(y, "en-x-11-10-99-88-77-66-55-44-33-22-12");
        int twelfth = Checks.read(y, "en-x-11-10-99-88-77-66-55-44-33-22-12-13");
        int last = Checks.read(y, "en");
        y.put(last, 0, 3);
        got(y, twelve, 3, 11);
        got(y, eleven, 3, 12);
        got(y, twelfth, 0, 0);
    }

    private static void gettingByParents() {
        Counted x = new Counted();
        Checks.parent(x, "en-AU=en-GB");
        Checks.parent(x, "en-GB=en-001");
        Checks.parent(x, "en=und");
        Checks.parent(x, "de-AT=fr");
        int au = Checks.read(x, "en-AU-x-a");
        int en = Checks.read(x, "en");
        int und = Checks.read(x, "und");
        int at = Checks.read(x, "de-AT");
        int de = Checks.read(x, "de");
        int fr = Checks.read(x, "fr");
        x.put(und, 0, 9);
        x.put(de, 0, 4);
        got(x, au, 9, 6);
        got(x, en, 9, 2);
        got(x, at, 0, 0);
        x.put(fr, 0, 3);
        got(x, at, 3, 2);
        x.put(en, 0, 8);
        got(x, au, 8, 5);
        int gb = Checks.read(x, "en-GB");
        x.put(gb, 0, 7);
        got(x, au, 7, 3);
        Counted ring = new Counted();
        Checks.parent(ring, "en=de");
        Checks.parent(ring, "de=en");
        int one = Checks.read(ring, "en-US");
        got(ring, one, 0, 0);
        int other = Checks.read(ring, "de");
        ring.put(other, 0, 2);
        got(ring, one, 2, 3);
        Counted chain = new Counted();
        for (char c = 'a'; c < 'k'; c++) {
            Checks.parent(chain, "a" + c + "=a" + (char) (c + 1));
        }
        int end = Checks.read(chain, "ak");
        int near = Checks.read(chain, "aa-US");
        int far = Checks.read(chain, "aa-Latn-US");
        chain.put(end, 0, 1);
        got(chain, near, 1, 12);
        got(chain, far, 0, 0);
    }

    private static void finding() {
        Counted x = new Counted();
        Checks.due("no get yet", x.found(), 0);
        Checks.read(x, "en-US");
        Checks.read(x, "en");
        x.put(1, 2, 5);
        Checks.due("put finds nothing", x.found(), 0);
        x.get(0, 2);
        Checks.due("at the second", x.found(), 2);
        Checks.due("and still", x.found(), 2);
        x.put(0, 2, 6);
        x.put(0, 9, 6);
        x.lookup(0);
        Checks.due("of the latest get alone", x.found(), 2);
        x.get(0, 2);
        Checks.due("at the first", x.found(), 1);
        x.get(0, 3);
        Checks.due("none", x.found(), 0);
    }
}
