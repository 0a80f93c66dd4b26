/** The sentences of the promises that name a limit or a wrong input, each with a test of its own. */
public final class PromiseEdgesTest {
    private static final int LEAST = Integer.MIN_VALUE;
    private static final int MOST = Integer.MAX_VALUE;

    private PromiseEdgesTest() {
    }

    public static void main(String[] args) {
        nothingAtFirst();
        typeWrongCharacter();
        typeSixty();
        wipeAll();
        wipeOnlyTyped();
        aliasNotTwo();
        aliasNotDifferent();
        aliasNotOneEquals();
        aliasOfTheOtherKind();
        aliasWhenRead();
        aliasWhenPaired();
        aliasEight();
        aliasHasOne();
        aliasRing();
        aliasWhichRefusal();
        readOldOne();
        readSixteen();
        readNoTagWhenFull();
        pairNotTwo();
        pairNotOneEquals();
        pairTen();
        pairLeadsAlready();
        pairWhichRefusal();
        showNoTag();
        showNoKind();
        showKinds();
        showLength();
        shownNone();
        tagsCount();
        supportNone();
        supportAlready();
        supportOrder();
        fitsNoTag();
        fitsLanguage();
        fitsPassesOver();
        fitsNoneLeft();
        fitsOneCharacter();
        fitsInTurn();
        lookupNone();
        lookupOnlySupported();
        lookupByTruncatingAlone();
        distanceNone();
        bestNone();
        bestFifty();
        bestFirst();
        putNone();
        putAgain();
        putAnyValue();
        getNone();
        getNoValue();
        getOfAKey();
        getTwelve();
        getParentFirst();
        getRing();
        foundPlaces();
        foundNone();
        foundLatest();
        Checks.finish();
    }

    /** Numbers of no tag, when there are so many tags. */
    private static int[] noTag(int tags) {
        return new int[] {-1, -2, tags, tags + 1, 16, 17, LEAST, LEAST + 1, MOST, MOST - 1};
    }

    private static Counted reading(String... texts) {
        Counted x = new Counted();
        for (int i = 0; i < texts.length; i++) {
            Checks.due("read of " + texts[i], Checks.read(x, texts[i]), i);
        }
        return x;
    }

    private static Counted sixteen() {
        Counted x = new Counted();
        for (int i = 0; i < 16; i++) {
            Checks.due("read", Checks.read(x, "a" + (char) ('a' + i)), i);
        }
        return x;
    }

    private static void nothingAtFirst() {
        Checks.about("1: nothing is typed, read, supported, given or shown");
        Counted typed = new Counted();
        Checks.due("typed", typed.type('e') && typed.type('n'), true);
        Checks.due("nothing was typed before", typed.read(), 0);
        Checks.due("just that", Checks.show(typed, 0, 0), "en");
        Checks.due("no tag", new Counted().tags(), 0);
        Checks.due("none supported", reading("en").lookup(0), -1);
        Checks.due("none supported", reading("en").best(0), -1);
        Checks.due("it can be supported", reading("en").support(0), true);
        for (int key = 0; key < 8; key++) {
            Counted x = reading("en");
            Checks.due("none given for " + key, x.get(0, key), 0);
            Checks.due("none found for " + key, x.found(), 0);
        }
        Checks.due("no alias", Checks.alias(new Counted(), "aa=bb", false), 1);
        Checks.due("no likely pair", Checks.likely(new Counted(), "en=en-Latn-US"), 1);
        Checks.due("no parent pair", Checks.parent(new Counted(), "en=de"), 1);
        for (int i = -1; i < 64; i++) {
            Checks.due("shown(" + i + ")", new Counted().shown(i), ' ');
        }
        Checks.due("nothing found", new Counted().found(), 0);
    }

    private static void typeWrongCharacter() {
        Checks.about("2: false when it is no letter, digit, -, _ or =");
        String may = "abcdefghijklmnopqrstuvwxyzABCDEFGHIJKLMNOPQRSTUVWXYZ0123456789-_=";
        for (int c = 0; c <= Character.MAX_VALUE; c++) {
            Checks.due("type of " + c, new Counted().type((char) c), may.indexOf(c) >= 0);
        }
    }

    private static void typeSixty() {
        Checks.about("2: false when there are 60");
        for (char c : new char[] {'a', '-', '_', '=', '0', 'Z'}) {
            Counted x = new Counted();
            for (int i = 0; i < 60; i++) {
                Checks.due("type of number " + (i + 1), x.type(c), true);
            }
            Checks.due("type of number 61", x.type(c), false);
            Checks.due("and again", x.type('a'), false);
            x.wipe();
            Checks.due("behind a wipe", x.type(c), true);
        }
        Counted y = new Counted();
        String longest = "en-x" + "-1".repeat(28);
        Checks.due("a tag of 60", Checks.read(y, longest), 0);
        Checks.due("60 again behind it", Checks.read(y, longest), 0);
    }

    private static void wipeAll() {
        Checks.about("3: nothing is typed from now on");
        Counted x = new Counted();
        x.wipe();
        Checks.due("nothing to wipe", x.read(), -1000);
        Checks.typed(x, "=".repeat(60));
        x.wipe();
        Checks.due("read", x.read(), -1000);
        Checks.due("all 60 are free", Checks.read(x, "en-x" + "-1".repeat(28)), 0);
    }

    private static void wipeOnlyTyped() {
        Checks.about("3: wipe changes nothing but what is typed");
        Counted x = reading("en-US", "en");
        x.support(1);
        x.put(1, 3, 7);
        x.get(0, 3);
        x.show(0, 0);
        x.wipe();
        Checks.due("found", x.found(), 2);
        Checks.due("shown", Checks.shown(x), "en-US");
        Checks.due("tags", x.tags(), 2);
        Checks.due("supported", x.lookup(0), 1);
        Checks.due("given", x.get(0, 3), 7);
    }

    private static void noAlias(boolean regions, String... texts) {
        for (String text : texts) {
            Checks.due("alias " + text, Checks.alias(new Counted(), text, regions), -1);
        }
    }

    private static void aliasNotTwo() {
        Checks.about("4: -1 when it is not two");
        noAlias(false, "", "aa", "aa=", "=aa", "=", "a=bb", "aa=b", "aaaa=bb", "aa=bbbb", "a1=bb",
                "aa=b1", "1a=bb", "aa=1b", "a_=bb", "aa=-b", "aa-bb=cc", "aa=bb-cc", "-aa=bb",
                "aa-=bb", "aa=bb-", "aa=_bb");
        noAlias(true, "", "us", "us=", "=us", "=", "u=gb", "us=g", "usa=gb", "us=gbr", "84=us",
                "us=84", "8401=us", "us=8401", "u1=gb", "us=1g", "84a=us", "us=a40", "us-gb=de",
                "us=gb-", "_us=gb");
        Checks.due("2 letters", Checks.alias(new Counted(), "aa=bb", false), 1);
        Checks.due("3 letters", Checks.alias(new Counted(), "aaa=bbb", false), 1);
        Checks.due("2 letters as regions", Checks.alias(new Counted(), "aa=bb", true), 1);
        Checks.due("3 digits", Checks.alias(new Counted(), "000=999", true), 1);
        Checks.due("letters and digits", Checks.alias(new Counted(), "us=840", true), 1);
    }

    private static void aliasNotDifferent() {
        Checks.about("4: -1 when it is not two different ones");
        noAlias(false, "aa=aa", "aa=AA", "aAa=AaA");
        noAlias(true, "us=us", "US=us", "840=840");
        Checks.due("the one longer", Checks.alias(new Counted(), "aa=aaa", false), 1);
        Checks.due("the other longer", Checks.alias(new Counted(), "aaa=aa", false), 1);
    }

    private static void aliasNotOneEquals() {
        Checks.about("4: -1 when it is not with one = between them");
        noAlias(false, "aabb", "aa-bb", "aa_bb", "aa==bb", "=aa=bb", "aa=bb=", "aa=bb=cc");
        noAlias(true, "usgb", "us-gb", "us==gb", "=us=gb", "us=gb=", "us=gb=de");
    }

    private static void aliasOfTheOtherKind() {
        Checks.about("4: of languages, or of regions when it is said so");
        noAlias(false, "123=456", "aa=123", "123=aa");
        noAlias(true, "aaa=bbb", "us=bbb", "aaa=us");
    }

    private static void aliasWhenRead() {
        Checks.about("4: -2 when a tag was read");
        Checks.due("a language", Checks.alias(reading("en"), "aa=bb", false), -2);
        Checks.due("a region", Checks.alias(reading("en"), "aa=bb", true), -2);
        Counted x = new Counted();
        Checks.read(x, "e");
        Checks.due("none was read", Checks.alias(x, "aa=bb", false), 1);
    }

    private static void aliasWhenPaired() {
        Checks.about("4: -2 when a likely or parent pair was taken");
        for (boolean regions : new boolean[] {false, true}) {
            Counted likely = new Counted();
            Checks.likely(likely, "en=en-Latn-US");
            Checks.due("likely", Checks.alias(likely, "aa=bb", regions), -2);
            Counted parent = new Counted();
            Checks.parent(parent, "en=de");
            Checks.due("parent", Checks.alias(parent, "aa=bb", regions), -2);
            Counted none = new Counted();
            Checks.likely(none, "en=en-Latn");
            Checks.parent(none, "en=en");
            Checks.due("none was taken", Checks.alias(none, "aa=bb", regions), 1);
        }
    }

    private static void aliasEight() {
        Checks.about("4: -2 when there are eight aliases");
        for (int mix = 0; mix < 3; mix++) {
            Counted x = new Counted();
            for (int i = 0; i < 8; i++) {
                boolean regions = mix == 2 || mix == 1 && i % 2 == 1;
                Checks.due("one more", Checks.alias(x, "a" + (char) ('a' + i) + "=zz", regions), i + 1);
            }
            Checks.due("a ninth language", Checks.alias(x, "ax=zz", false), -2);
            Checks.due("a ninth region", Checks.alias(x, "ax=zz", true), -2);
        }
    }

    private static void aliasHasOne() {
        Checks.about("4: -3 when the first one has one");
        Counted x = new Counted();
        Checks.alias(x, "aa=bb", false);
        Checks.alias(x, "123=456", true);
        Checks.due("another second", Checks.alias(x, "aa=cc", false), -3);
        Checks.due("the same again", Checks.alias(x, "aa=bb", false), -3);
        Checks.due("in capitals", Checks.alias(x, "AA=cc", false), -3);
        Checks.due("a region", Checks.alias(x, "123=us", true), -3);
        Checks.due("the other kind has none", Checks.alias(x, "aa=cc", true), 3);
        Checks.due("a second one has none", Checks.alias(x, "bb=cc", false), 4);
        Checks.due("the same second", Checks.alias(x, "dd=bb", false), 5);
    }

    private static void aliasRing() {
        Checks.about("4: -3 when the first one is what the second one is replaced by");
        Counted x = new Counted();
        Checks.alias(x, "aa=bb", false);
        Checks.due("a ring of two", Checks.alias(x, "bb=aa", false), -3);
        Checks.alias(x, "bb=cc", false);
        Checks.due("a ring of three", Checks.alias(x, "cc=aa", false), -3);
        Checks.due("a ring at the end", Checks.alias(x, "CC=BB", false), -3);
        Checks.due("no ring: regions", Checks.alias(x, "cc=aa", true), 3);
        Checks.due("a ring of regions", Checks.alias(x, "aa=cc", true), -3);
        Checks.due("no ring: beside it", Checks.alias(x, "dd=aa", false), 4);
        Checks.due("a ring by way of dd", Checks.alias(x, "cc=dd", false), -3);
        Counted y = new Counted();
        for (int i = 0; i < 7; i++) {
            Checks.alias(y, "a" + (char) ('a' + i) + "=a" + (char) ('b' + i), false);
        }
        Checks.due("a ring of eight", Checks.alias(y, "ah=aa", false), -3);
        Checks.due("an eighth", Checks.alias(y, "ah=ai", false), 8);
    }

    private static void aliasWhichRefusal() {
        Checks.about("4: -1 before -2 before -3");
        Counted x = new Counted();
        Checks.alias(x, "aa=bb", false);
        Checks.due("-1 before -3", Checks.alias(x, "aa=aa", false), -1);
        Checks.read(x, "en");
        Checks.due("-1 before -2", Checks.alias(x, "aa=b", false), -1);
        Checks.due("-2 before -3", Checks.alias(x, "aa=cc", false), -2);
        Checks.due("-2 before a ring", Checks.alias(x, "bb=aa", false), -2);
    }

    private static void readOldOne() {
        Checks.about("5: its number (an old one, if one with the same form was read before)");
        Counted x = reading("en", "en-US", "de");
        Checks.due("the first again", Checks.read(x, "EN"), 0);
        Checks.due("the second again", Checks.read(x, "en_us"), 1);
        Checks.due("the third again", Checks.read(x, "De"), 2);
        Checks.due("a new one", Checks.read(x, "fr"), 3);
        Checks.due("no more of them", x.tags(), 4);
    }

    private static void readSixteen() {
        Checks.about("5: -1 when its form is new and there are 16");
        Counted x = sixteen();
        Checks.due("a seventeenth", Checks.read(x, "zz"), -1);
        Checks.due("a longer one", Checks.read(x, "aa-US"), -1);
        Checks.due("no more of them", x.tags(), 16);
        Checks.due("the first again", Checks.read(x, "AA"), 0);
        Checks.due("the last again", Checks.read(x, "AP"), 15);
        Checks.due("a new one still", Checks.read(x, "zz"), -1);
    }

    private static void readNoTagWhenFull() {
        Checks.about("5: no tag is told as such when there are 16");
        Counted x = sixteen();
        Checks.due("wrong", Checks.read(x, "aa-b"), -1003);
        Checks.due("empty", Checks.read(x, ""), -1000);
        Checks.due("more must follow", Checks.read(x, "aa-x"), -1004);
    }

    private static void noPair(String... texts) {
        for (String text : texts) {
            Checks.due("likely " + text, Checks.likely(new Counted(), text), -1);
            Checks.due("parent " + text, Checks.parent(new Counted(), text), -1);
        }
    }

    private static void pairNotTwo() {
        Checks.about("6: -1 when it is not two tags as they must be");
        noPair("", "=", "en", "en=", "=en-Latn-US", "e=en-Latn-US", "en-=en-Latn-US",
                "-en=en-Latn-US", "en=-en-Latn-US", "en=en-Latn-US-", "en=e", "en=en-Latn-USA",
                "en-Latin1=en-Latn-US", "en=en-Latn-US-rozaj", "en-u-co=en-Latn-US",
                "en=en-Latn-US-u-co", "en-x-a=en-Latn-US", "en=en-Latn-US-x-a", "en-u=en-Latn-US",
                "en=en-Latn-US-x", "en-US-Latn=en-Latn-US", "en=en-US-Latn");
    }

    private static void pairNotOneEquals() {
        Checks.about("6: -1 when it is not with one = between them");
        noPair("en-en-Latn-US", "en_en_Latn_US", "en-Latn-US", "en==en-Latn-US", "=en=en-Latn-US",
                "en=en-Latn-US=", "en=en-Latn-US=de", "en=de=de-Latn-DE");
    }

    private static void pairTen() {
        Checks.about("6: -2 when there are ten of its kind");
        Counted likely = new Counted();
        Counted parent = new Counted();
        for (int i = 0; i < 10; i++) {
            String first = "a" + (char) ('a' + i);
            Checks.due("likely " + i, Checks.likely(likely, first + "=zz-Zzzz-ZZ"), i + 1);
            Checks.due("parent " + i, Checks.parent(parent, first + "=zz"), i + 1);
        }
        Checks.due("an eleventh likely", Checks.likely(likely, "ax=zz-Zzzz-ZZ"), -2);
        Checks.due("an eleventh parent", Checks.parent(parent, "ax=zz"), -2);
        Checks.due("of the other kind", Checks.parent(likely, "ax=zz"), 1);
        Checks.due("of the other kind", Checks.likely(parent, "ax=zz-Zzzz-ZZ"), 1);
        Checks.due("the tenth holds", Checks.show(likely, Checks.read(likely, "aj"), 2), "aj-Zzzz-ZZ");
        int tenth = Checks.read(parent, "aj");
        parent.put(Checks.read(parent, "zz"), 0, 5);
        Checks.due("the tenth holds", parent.get(tenth, 0), 5);
    }

    private static void pairLeadsAlready() {
        Checks.about("6: -2 when one of its kind leads from the first one");
        Counted x = new Counted();
        Checks.alias(x, "iw=he", false);
        Checks.likely(x, "en-US=en-Latn-US");
        Checks.parent(x, "he=de");
        Checks.due("the same", Checks.likely(x, "en-US=en-Latn-US"), -2);
        Checks.due("to another", Checks.likely(x, "EN_us=de-Latn-DE"), -2);
        Checks.due("by its form", Checks.parent(x, "iw=fr"), -2);
        Checks.due("the other kind", Checks.parent(x, "en-US=en"), 2);
        Checks.due("the other kind", Checks.likely(x, "he=he-Hebr-IL"), 2);
        Checks.due("a shorter one", Checks.likely(x, "en=en-Latn-US"), 3);
        Checks.due("a longer one", Checks.likely(x, "en-Latn-US=en-Latn-US"), 4);
        Checks.due("what it leads to", Checks.parent(x, "de=he"), 3);
    }

    private static void pairWhichRefusal() {
        Checks.about("6: -1 before -2");
        Counted x = new Counted();
        for (int i = 0; i < 10; i++) {
            Checks.likely(x, "a" + (char) ('a' + i) + "=zz-Zzzz-ZZ");
        }
        Checks.due("wrong when full", Checks.likely(x, "ax=zz"), -1);
        Checks.due("wrong from an old one", Checks.likely(x, "aa=zz-Zzzz"), -1);
        Checks.due("an old one when full", Checks.likely(x, "aa=zz-Zzzz-ZZ"), -2);
        Checks.parent(x, "en=de");
        Checks.due("to itself from an old one", Checks.parent(x, "en=en"), -1);
    }

    private static void showNoTag() {
        Checks.about("7: -1 when there is no tag t");
        for (int kind = 0; kind < 4; kind++) {
            for (int t : noTag(2)) {
                Checks.due("show(" + t + ", " + kind + ")", reading("en", "de").show(t, kind), -1);
            }
            Checks.due("no tag at all", new Counted().show(0, kind), -1);
            Checks.due("the sixteenth", sixteen().show(15, kind), 2);
            Checks.due("a seventeenth", sixteen().show(16, kind), -1);
        }
    }

    private static void showNoKind() {
        Checks.about("7: -1 when kind is not 0 .. 3");
        for (int kind : new int[] {-1, 4, 5, 8, LEAST, LEAST + 2, MOST, 256, 65536}) {
            Checks.due("show(0, " + kind + ")", reading("en").show(0, kind), -1);
        }
        for (int kind = 0; kind < 4; kind++) {
            Checks.due("show(0, " + kind + ")", reading("en").show(0, kind), 2);
        }
    }

    private static void showKinds() {
        Checks.about("7: the form (kind 0), the short form (1), the maximised (2), the minimised (3)");
        Counted x = new Counted();
        Checks.likely(x, "en=en-Latn-US");
        Checks.read(x, "en-us-rozaj");
        String[] due = {"en-US-rozaj", "en-US", "en-Latn-US", "en"};
        for (int kind = 0; kind < 4; kind++) {
            Checks.due("kind " + kind, Checks.show(x, 0, kind), due[kind]);
        }
    }

    private static void showLength() {
        Checks.about("7: how many characters that has");
        Counted x = reading("en", "en-x" + "-1".repeat(28), "en-Latn-US-rozaj");
        Checks.due("the shortest", x.show(0, 0), 2);
        Checks.due("the longest", x.show(1, 0), 60);
        Checks.due("its short form", x.show(1, 1), 2);
        Checks.due("a short form", x.show(2, 1), 10);
        Checks.due("a form", x.show(2, 0), 16);
    }

    private static void shownNone() {
        Checks.about("8: a space when there is none");
        Counted x = reading("en-x" + "-1".repeat(28), "de");
        x.show(0, 0);
        for (int i : new int[] {60, 61, 62, 63, -1, -60, LEAST, MOST}) {
            Checks.due("shown(" + i + ")", x.shown(i), ' ');
        }
        Checks.due("the first", x.shown(0), 'e');
        Checks.due("the last", x.shown(59), '1');
        x.show(1, 0);
        Checks.due("the last of two", x.shown(1), 'e');
        for (int i = 2; i < 60; i++) {
            Checks.due("nothing is left of the longer one", x.shown(i), ' ');
        }
    }

    private static void tagsCount() {
        Checks.about("9: how many tags were read");
        Counted x = new Counted();
        Checks.due("none", x.tags(), 0);
        Checks.read(x, "e");
        Checks.due("no tag", x.tags(), 0);
        Checks.likely(x, "en=en-Latn-US");
        Checks.parent(x, "en=de");
        Checks.due("pairs are no tags", x.tags(), 0);
        Checks.read(x, "en");
        Checks.due("one", x.tags(), 1);
        Checks.read(x, "EN");
        Checks.due("the same", x.tags(), 1);
        Checks.due("sixteen", sixteen().tags(), 16);
    }

    private static void supportNone() {
        Checks.about("10: false when there is none");
        Checks.due("no tag at all", new Counted().support(0), false);
        for (int t : noTag(2)) {
            Checks.due("support(" + t + ")", reading("en", "de").support(t), false);
        }
        Checks.due("the sixteenth", sixteen().support(15), true);
        Checks.due("a seventeenth", sixteen().support(16), false);
    }

    private static void supportAlready() {
        Checks.about("10: false when it is that already");
        Counted x = reading("en", "de");
        Checks.due("first", x.support(1), true);
        Checks.due("again", x.support(1), false);
        Checks.due("another", x.support(0), true);
        Checks.due("again", x.support(0), false);
        Checks.due("again", x.support(1), false);
        Counted all = sixteen();
        for (int t = 15; t >= 0; t--) {
            Checks.due("all can be", all.support(t), true);
        }
        for (int t = 0; t < 16; t++) {
            Checks.due("and are", all.support(t), false);
            Checks.due("and are looked up", all.lookup(t), t);
        }
    }

    private static void supportOrder() {
        Checks.about("supported, in the order in which that was said");
        Counted x = reading("en-Latn-US", "en-Latn-GB", "en-Latn-AU");
        x.support(1);
        x.support(0);
        x.support(1);
        Checks.due("the first said", x.best(2), 1);
        Counted y = reading("en-Latn-US", "en-Latn-GB", "en-Latn-AU");
        y.support(0);
        y.support(1);
        Checks.due("the first said", y.best(2), 0);
    }

    private static void fit(String range, String text, boolean want) {
        Counted x = new Counted();
        int r = Checks.read(x, range);
        int t = Checks.read(x, text);
        Checks.due(text + " fits " + range, x.fits(r, t), want);
    }

    private static void fitsNoTag() {
        Checks.about("11: false also when there is no such tag");
        for (int t : noTag(1)) {
            Checks.due("fits(0, " + t + ")", reading("en").fits(0, t), false);
            Checks.due("fits(" + t + ", 0)", reading("en").fits(t, 0), false);
            Checks.due("fits(" + t + ", the same)", reading("en").fits(t, t), false);
        }
        Checks.due("no tag at all", new Counted().fits(0, 0), false);
        Checks.due("there is one", reading("en").fits(0, 0), true);
    }

    private static void fitsLanguage() {
        Checks.about("11: they have the same language");
        fit("en", "en", true);
        fit("en", "en-Latn-US-rozaj-u-co-x-a", true);
        fit("en", "eng", false);
        fit("eng", "en", false);
        fit("en", "de-x-en", false);
        fit("en-US", "de-US", false);
        fit("und", "en", false);
    }

    private static void fitsPassesOver() {
        Checks.about("11: as long as it has more than one character, it is passed over");
        fit("en-US", "en-US", true);
        fit("en-US", "en-Latn-US", true);
        fit("en-rozaj", "en-Latn-US-biske-rozaj", true);
        fit("en-u-co", "en-Latn-US-rozaj-u-co", true);
        fit("en-u-nu", "en-u-co-abc-nu", true);
        fit("en-x-aa", "en-Latn-US-x-bb-cc-aa", true);
        fit("en-US", "en-US-rozaj-u-co-x-a", true);
    }

    private static void fitsNoneLeft() {
        Checks.about("11: if there is none left, it does not fit");
        fit("en-US", "en", false);
        fit("en-US", "en-GB", false);
        fit("en-US", "en-Latn-GB", false);
        fit("en-Latn-US", "en-Latn", false);
        fit("en-x-a", "en-US", false);
        fit("en-x-aa-aa", "en-x-aa", false);
        fit("en-u-co-abc", "en-u-co", false);
        fit("en-US-rozaj", "en-US", false);
    }

    private static void fitsOneCharacter() {
        Checks.about("11: if there is one of one character, it does not fit");
        fit("en-US", "en-x-us", false);
        fit("en-rozaj", "en-u-co-rozaj", false);
        fit("en-x-a", "en-u-co-x-a", false);
        fit("en-u-nu", "en-u-co-x-nu", false);
        fit("en-x-b", "en-x-a-b", false);
        fit("en-x-bb", "en-x-a-bb", false);
        fit("en-x-bb", "en-x-aa-b-bb", false);
        fit("en-x-a", "en-x-a", true);
        fit("en-x-a-b", "en-x-a-b", true);
        fit("en-x-b", "en-x-aa-b", true);
    }

    private static void fitsInTurn() {
        Checks.about("11: for each further subtag of range's form in turn");
        fit("en-Latn-US", "en-Latn-US", true);
        fit("en-US-rozaj", "en-Latn-US-biske-rozaj", true);
        fit("en-Latn-US", "en-US", false);
        fit("en-x-bb-aa", "en-x-aa-bb", false);
        fit("en-x-aa-bb", "en-x-aa-cc-bb", true);
        fit("en-x-aa-bb", "en-x-bb-aa-bb", true);
        fit("en-u-co-x-a", "en-u-co-abc-x-a", true);
    }

    private static void lookupNone() {
        Checks.about("12: -1 when there is none or no tag t");
        Checks.due("no tag at all", new Counted().lookup(0), -1);
        for (int t : noTag(1)) {
            Counted x = reading("en");
            x.support(0);
            Checks.due("lookup(" + t + ")", x.lookup(t), -1);
        }
        Counted none = reading("en", "en-US");
        Checks.due("none supported", none.lookup(1), -1);
        none.support(1);
        Checks.due("none behind it", none.lookup(0), -1);
        Checks.due("itself", none.lookup(1), 1);
    }

    private static void lookupOnlySupported() {
        Checks.about("12: the supported tag whose form is that of tag t, or else that truncated");
        Counted x = reading("en-Latn-US-rozaj", "en-Latn-US", "en-Latn", "en");
        for (int t = 3; t >= 0; t--) {
            x.support(t);
            Checks.due("the longest one that is supported", x.lookup(0), t);
        }
        Checks.due("no longer one", x.lookup(2), 2);
        Counted sixty = reading("en-x" + "-1".repeat(28), "en");
        sixty.support(1);
        Checks.due("from the longest to the language", sixty.lookup(0), 1);
    }

    private static void lookupByTruncatingAlone() {
        Checks.about("12: or else that truncated again, and so on: no pair leads there");
        Counted x = new Counted();
        Checks.parent(x, "en-US=de");
        Checks.parent(x, "en=de");
        Checks.likely(x, "en=en-Latn-US");
        int us = Checks.read(x, "en-US");
        x.support(Checks.read(x, "de"));
        x.support(Checks.read(x, "en-Latn-US"));
        Checks.due("neither parent nor likely", x.lookup(us), -1);
        int en = Checks.read(x, "en");
        x.support(en);
        Checks.due("truncated", x.lookup(us), en);
    }

    private static void distanceNone() {
        Checks.about("13: -1 when one of them is not there");
        Checks.due("no tag at all", new Counted().distance(0, 0), -1);
        for (int t : noTag(1)) {
            Checks.due("distance(0, " + t + ")", reading("en").distance(0, t), -1);
            Checks.due("distance(" + t + ", 0)", reading("en").distance(t, 0), -1);
            Checks.due("distance(" + t + ", the same)", reading("en").distance(t, t), -1);
        }
        Checks.due("both are", reading("en").distance(0, 0), 0);
    }

    private static void bestNone() {
        Checks.about("14: -1 when there is no tag t");
        Checks.due("no tag at all", new Counted().best(0), -1);
        for (int t : noTag(1)) {
            Counted x = reading("en");
            x.support(0);
            Checks.due("best(" + t + ")", x.best(t), -1);
        }
        Checks.due("none supported", reading("en").best(0), -1);
    }

    private static void nearest(String wanted, String supported, boolean near) {
        Counted x = reading(wanted, supported);
        x.support(1);
        Checks.due(supported + " for " + wanted, x.best(0), near ? 1 : -1);
    }

    private static void bestFifty() {
        Checks.about("14: if that is less than 50");
        nearest("en-Latn-US", "en-Latn-US-rozaj", true);
        nearest("en-Latn-US", "en-Latn", true);
        nearest("en-Latn-US", "en-Latn-GB", true);
        nearest("en-Latn-US", "en-Cyrl-US", true);
        nearest("en-Latn-US", "en", true);
        nearest("en-Latn-US", "en-Cyrl-GB", true);
        nearest("en-Latn-US", "de-Latn-US", false);
        nearest("en-Latn-US", "de-Latn", false);
        nearest("en-Latn-US", "de-Cyrl-GB", false);
    }

    private static void bestFirst() {
        Checks.about("14: the least distance, of several the one that was supported first");
        Counted x = reading("en-Latn-US", "en-Latn-AU", "en-Latn-GB", "en-Latn", "en-Cyrl-US");
        x.support(4);
        Checks.due("40", x.best(0), 4);
        x.support(2);
        Checks.due("5 before 40", x.best(0), 2);
        x.support(1);
        Checks.due("5, supported first", x.best(0), 2);
        x.support(3);
        Checks.due("2 before 5", x.best(0), 3);
        x.support(0);
        Checks.due("0 before 2", x.best(0), 0);
    }

    private static void putNone() {
        Checks.about("15: false when there is no tag t or key is not 0 .. 7");
        Checks.due("no tag at all", new Counted().put(0, 0, 1), false);
        for (int t : noTag(1)) {
            Checks.due("put(" + t + ", 0, 1)", reading("en").put(t, 0, 1), false);
        }
        for (int key : new int[] {-1, 8, 9, 16, LEAST, MOST, 256}) {
            Checks.due("put(0, " + key + ", 1)", reading("en").put(0, key, 1), false);
        }
        for (int key = 0; key < 8; key++) {
            Checks.due("put(0, " + key + ", 1)", reading("en").put(0, key, 1), true);
        }
        Checks.due("the sixteenth", sixteen().put(15, 7, 1), true);
        Checks.due("a seventeenth", sixteen().put(16, 7, 1), false);
    }

    private static void putAgain() {
        Checks.about("15: tag t has value v for a key from now on");
        Counted x = reading("en", "de");
        x.put(0, 7, 1);
        x.put(1, 7, 2);
        x.put(0, 0, 3);
        Checks.due("get(0, 7)", x.get(0, 7), 1);
        Checks.due("get(1, 7)", x.get(1, 7), 2);
        Checks.due("get(0, 0)", x.get(0, 0), 3);
        Checks.due("get(1, 0)", x.get(1, 0), 0);
        x.put(0, 7, 4);
        Checks.due("a later value", x.get(0, 7), 4);
        Checks.due("the others stay", x.get(0, 0), 3);
    }

    private static void putAnyValue() {
        Checks.about("15: any value, 0 and negative ones too");
        for (int v : new int[] {0, -1, 1, LEAST, MOST, -1000}) {
            Counted x = reading("en-US", "en");
            Checks.due("put(0, 2, " + v + ")", x.put(0, 2, v), true);
            x.put(1, 2, 77);
            Checks.due("get", x.get(0, 2), v);
            Checks.due("found", x.found(), 1);
        }
    }

    private static void getNone() {
        Checks.about("16: 0 when there is no tag t, or key is not 0 .. 7");
        Checks.due("no tag at all", new Counted().get(0, 0), 0);
        for (int t : noTag(1)) {
            Counted x = reading("en");
            x.put(0, 0, 5);
            Checks.due("get(" + t + ", 0)", x.get(t, 0), 0);
        }
        for (int key : new int[] {-1, 8, 9, 16, LEAST, MOST, 256}) {
            Counted x = reading("en");
            for (int each = 0; each < 8; each++) {
                x.put(0, each, 5);
            }
            Checks.due("get(0, " + key + ")", x.get(0, key), 0);
        }
    }

    private static void getNoValue() {
        Checks.about("16: 0 when there is none");
        Counted x = reading("en-US", "en", "de", "en-US-rozaj");
        x.put(2, 0, 5);
        x.put(3, 0, 6);
        Checks.due("none behind it", x.get(0, 0), 0);
        Checks.due("found none", x.found(), 0);
        x.put(1, 0, 7);
        Checks.due("one behind it", x.get(0, 0), 7);
    }

    private static void getOfAKey() {
        Checks.about("16: the first one that is that of a tag with a value for the key");
        Counted x = reading("en-Latn-US", "en-Latn", "en");
        x.put(0, 1, 10);
        x.put(1, 2, 20);
        x.put(2, 1, 31);
        x.put(2, 2, 32);
        x.put(2, 3, 33);
        int[][] due = {{1, 10, 1}, {2, 20, 2}, {3, 33, 3}, {4, 0, 0}};
        for (int[] one : due) {
            Checks.due("get(0, " + one[0] + ")", x.get(0, one[0]), one[1]);
            Checks.due("found", x.found(), one[2]);
        }
    }

    private static void got(Counted x, int t, int value, int place) {
        Checks.due("get(" + t + ", 0)", x.get(t, 0), value);
        Checks.due("found() behind get(" + t + ", 0)", x.found(), place);
    }

    private static void getTwelve() {
        Checks.about("16: at most 12");
        String eleven = "en-x-aa-ab-ac-ad-ae-af-ag-ah-ai-aj";
        Counted x = reading(eleven, eleven + "-ak", eleven + "-ak-al", "en", "en-x-aa");
        x.put(3, 0, 5);
        got(x, 0, 5, 11);
        got(x, 1, 5, 12);
        got(x, 2, 0, 0);
        x.put(4, 0, 6);
        got(x, 2, 6, 12);
        Counted chain = new Counted();
        for (int i = 0; i < 10; i++) {
            Checks.parent(chain, "a" + (char) ('a' + i) + "=a" + (char) ('b' + i));
        }
        int last = Checks.read(chain, "ak");
        chain.put(last, 0, 7);
        got(chain, Checks.read(chain, "aa"), 7, 11);
        got(chain, Checks.read(chain, "aa-US"), 7, 12);
        got(chain, Checks.read(chain, "aa-Latn-US"), 0, 0);
    }

    private static void getParentFirst() {
        Checks.about("16: that to which a parent pair leads from it, otherwise it truncated");
        Counted x = new Counted();
        Checks.parent(x, "en-AU=en-GB");
        Checks.parent(x, "en=und");
        Checks.parent(x, "de-AT=fr-CH");
        int au = Checks.read(x, "en-AU-rozaj");
        int und = Checks.read(x, "und");
        int at = Checks.read(x, "de-AT");
        int de = Checks.read(x, "de");
        int fr = Checks.read(x, "fr");
        x.put(und, 0, 1);
        x.put(de, 0, 2);
        got(x, au, 1, 5);
        got(x, at, 0, 0);
        x.put(fr, 0, 3);
        got(x, at, 3, 3);
        got(x, und, 1, 1);
    }

    private static void getRing() {
        Checks.about("16: parent pairs in a ring end at the twelfth");
        Counted x = new Counted();
        Checks.parent(x, "en=de");
        Checks.parent(x, "de=en");
        int us = Checks.read(x, "en-US");
        int de = Checks.read(x, "de");
        int en = Checks.read(x, "en");
        got(x, us, 0, 0);
        x.put(de, 0, 4);
        got(x, us, 4, 3);
        got(x, en, 4, 2);
        Counted longer = new Counted();
        Checks.parent(longer, "en=en-US");
        int only = Checks.read(longer, "en");
        got(longer, only, 0, 0);
        longer.put(Checks.read(longer, "en-US"), 0, 8);
        got(longer, only, 8, 2);
    }

    private static void foundPlaces() {
        Checks.about("17: at which place (from 1)");
        Counted x = reading("en-Latn-US-rozaj", "en-Latn-US", "en-Latn", "en");
        for (int t = 3; t >= 0; t--) {
            x.put(t, 0, 10 + t);
            got(x, 0, 10 + t, t + 1);
        }
    }

    private static void foundNone() {
        Checks.about("17: 0 when it found none, or there was none");
        Checks.due("there was none", new Counted().found(), 0);
        Counted x = reading("en");
        Checks.due("there was none", x.found(), 0);
        x.put(0, 0, 5);
        Checks.due("there was none still", x.found(), 0);
        x.get(0, 0);
        Checks.due("one", x.found(), 1);
        x.get(0, 1);
        Checks.due("found none", x.found(), 0);
        int[][] wrong = {{1, 0}, {-1, 0}, {0, -1}, {0, 8}, {16, 0}, {LEAST, 0}, {0, MOST}};
        for (int[] call : wrong) {
            x.get(0, 0);
            x.get(call[0], call[1]);
            Checks.due("found by get(" + call[0] + ", " + call[1] + ")", x.found(), 0);
        }
    }

    private static void foundLatest() {
        Checks.about("17: of the latest get()");
        Counted x = reading("en-US", "en");
        x.put(1, 0, 5);
        got(x, 0, 5, 2);
        x.put(0, 0, 6);
        Checks.due("put is no get", x.found(), 2);
        x.lookup(0);
        x.best(0);
        x.show(0, 0);
        x.support(0);
        Checks.read(x, "de");
        Checks.due("nor is any other", x.found(), 2);
        got(x, 0, 6, 1);
        got(x, 1, 5, 1);
    }
}
