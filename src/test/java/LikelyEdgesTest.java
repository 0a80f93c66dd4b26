/**
 * The sentences under "Terms" on pairs, on maximising and minimising, on the distance and on
 * truncating, each with a test of its own.
 */
public final class LikelyEdgesTest {
    private LikelyEdgesTest() {
    }

    public static void main(String[] args) {
        likelyPairs();
        parentPairs();
        undLikeAnyOther();
        whatIsWholeStays();
        undIsNeverWhole();
        firstOfFive();
        firstOfThreeWithRegion();
        firstOfThreeWithScript();
        languageAlone();
        onlyWhatTheTagHas();
        undAndScript();
        undAndScriptIsTheLast();
        languageOnlyIfUnd();
        scriptOnlyIfNone();
        regionOnlyIfNone();
        noneStays();
        onceAlone();
        shortFormComesOut();
        replacedBeforeMaximising();
        minimisedIsMaximisedFirst();
        languageFirst();
        regionBeforeScript();
        scriptLast();
        otherwiseWhole();
        onlyWhatTheWholeHas();
        givesJustTheWhole();
        languagesApart();
        scriptsApart();
        regionsApart();
        apartTogether();
        apartMaximised();
        lastLeftOut();
        lastOfOneToo();
        oneAlone();
        toTheLanguage();
        Checks.finish();
    }

    private static Counted with(String... likely) {
        Counted x = new Counted();
        for (String pair : likely) {
            Checks.due("likely " + pair, Checks.likely(x, pair) > 0, true);
        }
        return x;
    }

    private static void maximised(Counted x, String text, String want) {
        Checks.due("maximised " + text, Checks.show(x, Checks.read(x, text), 2), want);
    }

    private static void minimised(Counted x, String text, String want) {
        Checks.due("minimised " + text, Checks.show(x, Checks.read(x, text), 3), want);
    }

    private static void apart(Counted x, String a, String b, int want) {
        int one = Checks.read(x, a);
        int other = Checks.read(x, b);
        Checks.due("distance of " + a + " and " + b, x.distance(one, other), want);
        Checks.due("distance of " + b + " and " + a, x.distance(other, one), want);
    }

    private static void likelyPairs() {
        Checks.about("likely pairs lead from a plain tag to a plain tag with script and region");
        String[] from = {"en", "en-Latn", "en-US", "en-Latn-US", "und", "de-Cyrl-GB"};
        for (String text : from) {
            Checks.due(text, Checks.likely(new Counted(), text + "=en-Latn-US"), 1);
            Checks.due(text, Checks.likely(new Counted(), text + "=und-Latn-840"), 1);
        }
        String[] wrong = {"en=en", "en=en-Latn", "en=en-US", "en=en-840", "en=en-Latn-US-rozaj",
            "en=en-Latn-US-u-co", "en=en-Latn-US-x-a", "en=en-Latn-rozaj", "en=en-US-rozaj",
            "en-rozaj=en-Latn-US", "en-u-co=en-Latn-US", "en-x-a=en-Latn-US"};
        for (String text : wrong) {
            Checks.due(text, Checks.likely(new Counted(), text), -1);
        }
    }

    private static void parentPairs() {
        Checks.about("parent pairs lead from the form of a plain tag to that of another one");
        for (String text : new String[] {"en=de", "en=en-US", "en-Latn-US=en", "en=en-Latn"}) {
            Checks.due(text, Checks.parent(new Counted(), text), 1);
        }
        for (String text : new String[] {"en=en", "en=EN", "en-us=EN_US", "en-Latn=en-lATN"}) {
            Checks.due(text, Checks.parent(new Counted(), text), -1);
        }
        Counted x = new Counted();
        Checks.alias(x, "iw=he", false);
        Checks.alias(x, "su=ru", true);
        Checks.due("the same form by a language", Checks.parent(x, "iw=he"), -1);
        Checks.due("the same form by a region", Checks.parent(x, "en-su=en-RU"), -1);
        Checks.due("the same form by both", Checks.parent(x, "he-ru=iw-SU"), -1);
        Checks.due("other forms", Checks.parent(x, "iw-su=iw"), 1);
    }

    private static void undLikeAnyOther() {
        Checks.about("the language und is like any other, but where it is named");
        Counted x = new Counted();
        Checks.due("an alias of und", Checks.alias(x, "und=en", false), 1);
        Checks.due("an alias to und", Checks.alias(x, "xx=und", false), 2);
        Checks.due("form", Checks.show(x, Checks.read(x, "und-US"), 0), "en-US");
        Checks.due("form", Checks.show(x, Checks.read(x, "xx-US"), 0), "en-US");
        Counted y = new Counted();
        Checks.due("a parent pair from und", Checks.parent(y, "und=en"), 1);
        Checks.due("a parent pair to und", Checks.parent(y, "de=und"), 2);
        int und = Checks.read(y, "und");
        int en = Checks.read(y, "en-US");
        int undUs = Checks.read(y, "und-US");
        Checks.due("und is no range for all", y.fits(und, en), false);
        Checks.due("und fits und", y.fits(und, undUs), true);
        Checks.due("distance of und and another", y.distance(undUs, en), 80);
        y.support(und);
        Checks.due("und is no last resort", y.lookup(en), -1);
        Checks.due("und is what und-US is truncated to", y.lookup(undUs), und);
    }

    private static void whatIsWholeStays() {
        Checks.about("if it has script and region and its language is not und, that is it");
        Counted x = with("en-Latn-US=de-Cyrl-GB", "en=de-Cyrl-GB", "en-US=de-Cyrl-GB",
                "en-Latn=de-Cyrl-GB", "und-Latn=de-Cyrl-GB");
        maximised(x, "en-Latn-US", "en-Latn-US");
        maximised(x, "en-Latn-US-rozaj", "en-Latn-US");
    }

    private static void undIsNeverWhole() {
        Checks.about("und with script and region is maximised too");
        maximised(with("und-Latn-US=en-Cyrl-GB"), "und-Latn-US", "en-Latn-US");
        maximised(with("und=en-Cyrl-GB"), "und-Latn-US", "en-Latn-US");
        maximised(with("en=en-Latn-US"), "und-Latn-US", "und-Latn-US");
    }

    /** Each pair comes before all that were taken earlier. */
    private static void firstOfFive() {
        Checks.about("the first of: language, script, region; language, region; language, script;"
                + " language");
        Counted x = new Counted();
        int t = Checks.read(x, "und-Latn-US");
        Checks.due("none", Checks.show(x, t, 2), "und-Latn-US");
        String[][] rising = {{"und", "aa"}, {"und-Latn", "bb"}, {"und-US", "cc"},
            {"und-Latn-US", "dd"}};
        for (String[] pair : rising) {
            Checks.likely(x, pair[0] + "=" + pair[1] + "-Zzzz-ZZ");
            Checks.due(pair[0], Checks.show(x, t, 2), pair[1] + "-Latn-US");
        }
        Counted y = new Counted();
        for (int i = 3; i >= 0; i--) {
            Checks.likely(y, rising[i][0] + "=" + rising[i][1] + "-Zzzz-ZZ");
            maximised(y, "und-Latn-US", "dd-Latn-US");
        }
    }

    private static void firstOfThreeWithRegion() {
        Checks.about("language, region before language");
        Counted x = with("en=en-Aaaa-AA");
        maximised(x, "en-US", "en-Aaaa-US");
        Checks.likely(x, "en-US=en-Bbbb-BB");
        maximised(x, "en-US", "en-Bbbb-US");
        maximised(x, "en-GB", "en-Aaaa-GB");
    }

    private static void firstOfThreeWithScript() {
        Checks.about("language, script before language before und, script");
        Counted x = with("und-Latn=zz-Zzzz-CC");
        maximised(x, "en-Latn", "en-Latn-CC");
        Checks.likely(x, "en=en-Aaaa-AA");
        maximised(x, "en-Latn", "en-Latn-AA");
        Checks.likely(x, "en-Latn=en-Bbbb-BB");
        maximised(x, "en-Latn", "en-Latn-BB");
    }

    private static void languageAlone() {
        Checks.about("language");
        Counted x = with("en=en-Latn-US");
        maximised(x, "en", "en-Latn-US");
        maximised(x, "en-Cyrl", "en-Cyrl-US");
        maximised(x, "en-GB", "en-Latn-GB");
        maximised(x, "eng", "eng");
    }

    private static void onlyWhatTheTagHas() {
        Checks.about("each only if the tag has what it names");
        Counted x = with("en-Latn=en-Latn-US", "en-US=en-Latn-US", "en-Latn-US=en-Latn-US",
                "und-Latn=en-Latn-US", "und-US=en-Latn-US", "und-Latn-US=en-Latn-US",
                "und=en-Latn-US");
        maximised(x, "en", "en");
        maximised(x, "en-GB", "en-GB");
        maximised(x, "de-US", "de-US");
        maximised(with("und-Latn=en-Latn-US", "und-US=en-Latn-US"), "und", "und");
        maximised(with("und-Latn-US=en-Latn-US", "und-US=en-Latn-US"), "und-Latn", "und-Latn");
        maximised(with("und-Latn-US=en-Latn-US", "und-Latn=en-Latn-US"), "und-US", "und-US");
    }

    private static void undAndScript() {
        Checks.about("und, script");
        Counted x = with("und-Arab=ar-Arab-EG");
        maximised(x, "fa-Arab", "fa-Arab-EG");
        maximised(x, "und-Arab", "ar-Arab-EG");
        maximised(x, "und-Arab-IR", "ar-Arab-IR");
        maximised(x, "fa", "fa");
        maximised(x, "fa-Latn", "fa-Latn");
    }

    private static void undAndScriptIsTheLast() {
        Checks.about("there is no und, region and no und alone for another language");
        Counted x = with("und-US=en-Latn-US", "und=en-Latn-US", "und-Latn-US=en-Latn-US");
        maximised(x, "fr-US", "fr-US");
        maximised(x, "fr", "fr");
        maximised(x, "fr-Latn", "fr-Latn");
    }

    private static void languageOnlyIfUnd() {
        Checks.about("the language if its own is und");
        maximised(with("und=de-Latn-DE"), "und", "de-Latn-DE");
        maximised(with("en=de-Latn-DE"), "en", "en-Latn-DE");
        maximised(with("en-US=de-Latn-DE"), "en-US", "en-Latn-US");
        maximised(with("und=und-Latn-DE"), "und", "und-Latn-DE");
    }

    private static void scriptOnlyIfNone() {
        Checks.about("the script if it has none");
        Counted x = with("en=en-Latn-US", "en-Arab=en-Hans-GB");
        maximised(x, "en-GB", "en-Latn-GB");
        maximised(x, "en-Cyrl", "en-Cyrl-US");
        maximised(x, "en-Arab", "en-Arab-GB");
    }

    private static void regionOnlyIfNone() {
        Checks.about("the region if it has none");
        Counted x = with("en=en-Latn-US", "en-GB=en-Cyrl-DE");
        maximised(x, "en-Cyrl", "en-Cyrl-US");
        maximised(x, "en-AU", "en-Latn-AU");
        maximised(x, "en-GB", "en-Cyrl-GB");
    }

    private static void noneStays() {
        Checks.about("if there is none, it stays as it is");
        for (String text : new String[] {"fr", "fr-FR", "fr-Latn", "fr-Latn-FR", "und", "und-FR",
            "und-Latn", "und-Latn-FR"}) {
            maximised(new Counted(), text, text);
            maximised(with("en=en-Latn-US", "fr-Cyrl=fr-Cyrl-FR", "fr-US=fr-Latn-US"), text, text);
        }
    }

    private static void onceAlone() {
        Checks.about("what comes out is not maximised again");
        maximised(with("und=und-Latn-US", "und-Latn-US=en-Latn-US"), "und", "und-Latn-US");
        maximised(with("und=de-Latn-DE", "de=de-Cyrl-GB"), "und", "de-Latn-DE");
    }

    private static void shortFormComesOut() {
        Checks.about("what comes out is a short form");
        Counted x = with("en=en-Latn-US");
        maximised(x, "en-rozaj-u-co-x-a", "en-Latn-US");
        maximised(x, "fr-rozaj-u-co-x-a", "fr");
        minimised(x, "en-Latn-US-x-a", "en");
        minimised(x, "fr-FR-x-a", "fr-FR");
    }

    private static void replacedBeforeMaximising() {
        Checks.about("its language, script and region are those of its short form");
        Counted x = new Counted();
        Checks.alias(x, "iw=he", false);
        Checks.alias(x, "su=ru", true);
        Checks.likely(x, "iw=iw-Hebr-IL");
        Checks.likely(x, "en-SU=en-Cyrl-SU");
        maximised(x, "iw", "he-Hebr-IL");
        maximised(x, "he", "he-Hebr-IL");
        maximised(x, "en-SU", "en-Cyrl-RU");
        maximised(x, "en-RU", "en-Cyrl-RU");
    }

    private static void minimisedIsMaximisedFirst() {
        Checks.about("to minimise: it is maximised; that is m; the language of m");
        Counted x = with("und=en-Latn-US", "en=en-Latn-US");
        minimised(x, "und", "en");
        minimised(x, "und-Latn-US", "en");
        minimised(x, "und-GB", "en-GB");
        minimised(x, "und-Cyrl", "en-Cyrl");
        minimised(x, "en", "en");
        minimised(with("und=en-Latn-US"), "und", "en-Latn-US");
    }

    private static void languageFirst() {
        Checks.about("the first of these: the language of m alone");
        Counted x = with("en=en-Latn-US", "en-US=en-Latn-US", "en-Latn=en-Latn-US");
        for (String text : new String[] {"en", "en-Latn", "en-US", "en-Latn-US"}) {
            minimised(x, text, "en");
        }
    }

    private static void regionBeforeScript() {
        Checks.about("then its language and region");
        Counted x = with("en=en-Cyrl-GB", "en-US=en-Latn-US", "en-Latn=en-Latn-US");
        minimised(x, "en-Latn-US", "en-US");
        minimised(x, "en-Latn", "en-US");
        minimised(x, "en-US", "en-US");
    }

    private static void scriptLast() {
        Checks.about("then its language and script");
        Counted x = with("en=en-Cyrl-GB", "en-Latn=en-Latn-US");
        minimised(x, "en-Latn-US", "en-Latn");
        minimised(x, "en-Latn", "en-Latn");
        minimised(x, "en-Arab-GB", "en-Arab");
    }

    private static void otherwiseWhole() {
        Checks.about("otherwise m");
        Counted x = with("en=en-Cyrl-GB");
        minimised(x, "en-Latn-US", "en-Latn-US");
        minimised(x, "fr-Latn-FR", "fr-Latn-FR");
    }

    private static void onlyWhatTheWholeHas() {
        Checks.about("each only if m has what it names");
        minimised(new Counted(), "fr", "fr");
        minimised(new Counted(), "fr-FR", "fr-FR");
        minimised(new Counted(), "fr-Latn", "fr-Latn");
        minimised(new Counted(), "und", "und");
        minimised(new Counted(), "und-Latn-US", "und-Latn-US");
    }

    private static void givesJustTheWhole() {
        Checks.about("whose own maximising gives m");
        minimised(with("en=en-Latn-US"), "en-Latn-GB", "en-GB");
        minimised(with("en=en-Latn-US"), "en-Cyrl-US", "en-Cyrl");
        minimised(with("en=en-Latn-US"), "en-Cyrl-GB", "en-Cyrl-GB");
        minimised(with("und=und-Latn-US"), "und-Latn-US", "und");
        minimised(with("und-US=en-Latn-US", "en=en-Latn-US"), "und-US", "en");
        minimised(with("en-US=de-Latn-GB", "und-US=en-Latn-GB"), "und-US", "en-US");
    }

    private static void languagesApart() {
        Checks.about("the distance: 80 if the languages are different");
        apart(new Counted(), "en", "de", 80);
        apart(new Counted(), "en", "eng", 80);
        apart(new Counted(), "en", "und", 80);
        apart(new Counted(), "en", "EN-rozaj", 0);
        apart(new Counted(), "en", "en", 0);
    }

    private static void scriptsApart() {
        Checks.about("and 40 if the scripts are (also if just one has none)");
        apart(new Counted(), "en-Latn", "en-Cyrl", 40);
        apart(new Counted(), "en-Latn", "en", 40);
        apart(new Counted(), "en-Latn", "en-Latn-rozaj", 0);
        apart(new Counted(), "en", "en-u-co", 0);
    }

    private static void regionsApart() {
        Checks.about("5 if both have a region and they are different, 2 if just one has one");
        apart(new Counted(), "en-US", "en-GB", 5);
        apart(new Counted(), "en-US", "en-840", 5);
        apart(new Counted(), "en-US", "en", 2);
        apart(new Counted(), "en-US", "en-US-rozaj", 0);
        apart(new Counted(), "en", "en-x-us", 0);
    }

    private static void apartTogether() {
        Checks.about("80 and 40 and 5 or 2");
        apart(new Counted(), "en-Latn-US", "de-Cyrl-GB", 125);
        apart(new Counted(), "en-Latn-US", "de-Cyrl", 122);
        apart(new Counted(), "en-Latn-US", "de-Cyrl-US", 120);
        apart(new Counted(), "en-Latn-US", "de-Latn-GB", 85);
        apart(new Counted(), "en-Latn-US", "de-Latn", 82);
        apart(new Counted(), "en-Latn-US", "en-Cyrl-GB", 45);
        apart(new Counted(), "en-Latn-US", "en-Cyrl", 42);
        apart(new Counted(), "en-Latn-US", "de", 122);
    }

    private static void apartMaximised() {
        Checks.about("the distance of two tags is that of the two maximised");
        Counted x = with("en=en-Latn-US", "und=en-Latn-US", "de=de-Latn-DE");
        apart(x, "en", "en-Latn-US", 0);
        apart(x, "en", "und", 0);
        apart(x, "en", "en-GB", 5);
        apart(x, "en", "en-Cyrl", 40);
        apart(x, "en-GB", "de", 85);
        apart(x, "fr", "de", 122);
    }

    /** Whether truncating a form comes to another one, by lookup() and by get(). */
    private static void comesTo(String text, String other, int place) {
        Counted x = new Counted();
        int from = Checks.read(x, text);
        int to = Checks.read(x, other);
        x.support(to);
        x.put(to, 0, 9);
        Checks.due(text + " looked up to " + other, x.lookup(from), place > 0 ? to : -1);
        Checks.due(text + " got by " + other, x.get(from, 0), place > 0 ? 9 : 0);
        Checks.due(text + " found at " + other, x.found(), place);
    }

    private static void lastLeftOut() {
        Checks.about("to truncate a form: its last subtag is left out");
        comesTo("en-Latn-US-rozaj", "en-Latn-US", 2);
        comesTo("en-Latn-US-rozaj", "en-Latn", 3);
        comesTo("en-Latn-US-rozaj", "en", 4);
        comesTo("en-u-co-abc-nu-abd", "en-u-co-abc-nu", 2);
        comesTo("en-u-co-abc-nu-abd", "en-u-co-abc", 3);
        comesTo("en-u-co-abc-nu-abd", "en-u-co", 4);
        comesTo("en-x-aa-bb", "en-x-aa", 2);
        comesTo("en-x-aa-b", "en-x-aa", 2);
        comesTo("en-Latn-US", "en-US", 0);
        comesTo("en-rozaj-biske", "en-rozaj", 0);
        comesTo("en-US", "de", 0);
    }

    private static void lastOfOneToo() {
        Checks.about("and then, if the last one has one character, that too");
        comesTo("en-u-co", "en", 2);
        comesTo("en-x-a", "en", 2);
        comesTo("en-x-abcd", "en", 2);
        comesTo("en-US-u-co-x-aa", "en-US-u-co", 2);
        comesTo("en-US-u-co-x-aa", "en-US", 3);
        comesTo("en-x-aa-b-cc", "en-x-aa", 2);
        comesTo("en-x-aa-b-cc", "en-x-aa-b", 0);
        comesTo("en-x-aa-b", "en-x-aa", 2);
        comesTo("en-x-aa-x-bb", "en-x-aa", 2);
    }

    private static void oneAlone() {
        Checks.about("one subtag of one character, not two, goes with the last one");
        comesTo("en-x-a-b", "en-x-a", 0);
        comesTo("en-x-a-b", "en", 3);
        comesTo("en-x-aa-a-b-c", "en-x-aa-a", 2);
        comesTo("en-x-aa-a-b-c", "en-x-aa-a-b", 0);
        comesTo("en-x-aa-a-b-c", "en-x-aa", 3);
        comesTo("en-x-a-b-c", "en-x-a", 2);
        comesTo("en-x-a-b-c", "en", 3);
    }

    private static void toTheLanguage() {
        Checks.about("of a form of one subtag nothing is left");
        comesTo("en", "en-US", 0);
        comesTo("en", "de", 0);
        comesTo("eng", "en", 0);
        comesTo("en", "en", 1);
    }
}
