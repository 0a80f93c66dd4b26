import java.util.ArrayList;
import java.util.List;
import java.util.function.Consumer;
import java.util.function.Function;

/**
 * A refused call changes nothing, also not what is typed; one that takes what is typed leaves
 * nothing typed; and every other call changes only what its promise says. Each is told by asking
 * all that can be asked of an object with the call behind it and of one without.
 */
public final class RefusedTest {
    private static final int LEAST = Integer.MIN_VALUE;
    private static final int MOST = Integer.MAX_VALUE;

    /** What is typed behind what is there, to tell by the answers what was there. */
    private static final String[] ENDS = {"", "a", "b", "A", "1", "-", "_", "=", "S", "-x-a",
        "-u-co", "=zz", "zz", "-ZZ", "=zz-Zzzz-ZZ", "-Zzzz-ZZ", "=123", "23"};

    private RefusedTest() {
    }

    public static void main(String[] args) {
        refusedType();
        refusedAlias();
        refusedRead();
        refusedPair();
        refusedShow();
        refusedSupport();
        refusedPut();
        refusedQuestions();
        takenByAlias();
        takenByRead();
        takenByPair();
        changedByShow();
        changedBySupport();
        changedByPut();
        changedByGet();
        changedByType();
        changedByWipe();
        questionsChangeNothing();
        Checks.finish();
    }

    private static void typed(Counted x, String text) {
        for (int i = 0; i < text.length(); i++) {
            Checks.due("type of place " + i + " of " + text, x.type(text.charAt(i)), true);
        }
    }

    /** A state with something of each kind, and a text that is typed. */
    private static Consumer<Counted> full(String text) {
        return x -> {
            Checks.alias(x, "iw=he", false);
            Checks.alias(x, "su=ru", true);
            Checks.likely(x, "en=en-Latn-US");
            Checks.parent(x, "en-GB=de");
            Checks.read(x, "en-GB-x-a");
            Checks.read(x, "en-Latn-AU");
            Checks.read(x, "de");
            x.support(2);
            x.support(1);
            x.put(2, 3, 30);
            x.put(1, 0, -7);
            x.get(0, 3);
            x.show(1, 0);
            typed(x, text);
        };
    }

    private static Consumer<Counted> aliasesOnly(int count, String text) {
        return x -> {
            for (int i = 0; i < count; i++) {
                Checks.alias(x, "a" + (char) ('a' + i) + "=zz", false);
            }
            typed(x, text);
        };
    }

    private static Consumer<Counted> pairsOnly(int count, boolean parent, String text) {
        return x -> {
            for (int i = 0; i < count; i++) {
                Checks.typed(x, "a" + (char) ('a' + i) + "=zz-Zzzz-ZZ");
                x.pair(parent);
            }
            typed(x, text);
        };
    }

    private static Consumer<Counted> sixteenTags(String text) {
        return x -> {
            for (int i = 0; i < 16; i++) {
                Checks.read(x, "a" + (char) ('a' + i));
            }
            typed(x, text);
        };
    }

    private static Counted behind(Consumer<Counted> before, Consumer<Counted> call) {
        Counted x = new Counted();
        before.accept(x);
        call.accept(x);
        return x;
    }

    /** What each question about what is typed answers, every one asked of a new object. */
    private static String askTyped(Consumer<Counted> before, Consumer<Counted> call) {
        StringBuilder all = new StringBuilder("typed:");
        List<Function<Counted, Integer>> takers = List.of(Counted::read, x -> x.alias(false),
                x -> x.alias(true), x -> x.pair(false), x -> x.pair(true));
        for (String end : ENDS) {
            for (Function<Counted, Integer> taker : takers) {
                Counted x = behind(before, call);
                for (int i = 0; i < end.length(); i++) {
                    x.type(end.charAt(i));
                }
                all.append(' ').append(taker.apply(x));
                all.append('/').append(x.tags());
                if (x.tags() > 0) {
                    all.append('/').append(Checks.show(x, x.tags() - 1, 0));
                }
            }
        }
        Counted x = behind(before, call);
        int room = 0;
        while (room < 61 && x.type('a')) {
            room++;
        }
        return all.append(" room ").append(room).toString();
    }

    private static String askShown(Consumer<Counted> before, Consumer<Counted> call) {
        Counted x = behind(before, call);
        StringBuilder all = new StringBuilder("shown:");
        for (int i = -1; i < 64; i++) {
            all.append(x.shown(i));
        }
        return all.toString();
    }

    private static String askFound(Consumer<Counted> before, Consumer<Counted> call) {
        return "found: " + behind(before, call).found();
    }

    /** The forms of the tags, by all four kinds: aliases and likely pairs are told by them too. */
    private static String askForms(Consumer<Counted> before, Consumer<Counted> call) {
        int tags = behind(before, call).tags();
        StringBuilder all = new StringBuilder("forms of " + tags + ":");
        for (int t = 0; t < tags; t++) {
            Counted x = behind(before, call);
            for (int kind = 0; kind < 4; kind++) {
                all.append(' ').append(Checks.show(x, t, kind));
            }
        }
        return all.toString();
    }

    private static String askSupported(Consumer<Counted> before, Consumer<Counted> call) {
        int tags = behind(before, call).tags();
        Counted x = behind(before, call);
        StringBuilder all = new StringBuilder("supported:");
        for (int t = -1; t <= tags; t++) {
            all.append(' ').append(x.lookup(t)).append('/').append(x.best(t));
        }
        for (int t = -1; t <= tags; t++) {
            all.append(' ').append(x.support(t));
        }
        return all.toString();
    }

    private static String askValues(Consumer<Counted> before, Consumer<Counted> call) {
        int tags = behind(before, call).tags();
        StringBuilder all = new StringBuilder("values:");
        for (int t = 0; t < tags; t++) {
            Counted x = behind(before, call);
            for (int key = -1; key <= 8; key++) {
                all.append(' ').append(x.get(t, key)).append('/').append(x.found());
            }
        }
        return all.toString();
    }

    /** How many aliases and pairs there are, and what those from a few firsts lead to. */
    private static String askCounts(Consumer<Counted> before, Consumer<Counted> call) {
        StringBuilder all = new StringBuilder("counts:");
        String[] firsts = {"qq", "aa", "zz", "en", "iw", "he", "en-GB", "de", "ax", "su", "ru"};
        for (String first : firsts) {
            String text = first + "=qz";
            all.append(' ').append(Checks.alias(behind(before, call), text, false));
            all.append(' ').append(Checks.alias(behind(before, call), text, true));
            all.append(' ').append(Checks.parent(behind(before, call), text));
            text = first + "=qz-Zzzz-ZZ";
            all.append(' ').append(Checks.likely(behind(before, call), text));
            Counted x = behind(before, call);
            int t = Checks.read(x, first);
            if (t >= 0) {
                all.append(' ').append(Checks.show(x, t, 0)).append(Checks.show(x, t, 2));
            }
        }
        return all.toString();
    }

    private static String askTogether(Consumer<Counted> before, Consumer<Counted> call) {
        Counted x = behind(before, call);
        int tags = Math.min(4, behind(before, call).tags());
        StringBuilder all = new StringBuilder("together:");
        for (int a = 0; a < tags; a++) {
            for (int b = 0; b < tags; b++) {
                all.append(' ').append(x.fits(a, b)).append('/').append(x.distance(a, b));
            }
        }
        return all.toString();
    }

    /** All that can be asked; each answer begins with what it is about. */
    private static List<String> ask(Consumer<Counted> before, Consumer<Counted> call) {
        List<String> all = new ArrayList<>();
        all.add(askTyped(before, call));
        all.add(askShown(before, call));
        all.add(askFound(before, call));
        all.add(askForms(before, call));
        all.add(askSupported(before, call));
        all.add(askValues(before, call));
        all.add(askCounts(before, call));
        all.add(askTogether(before, call));
        return all;
    }

    /** Compares all but what is about one of these words. */
    private static void same(String what, Consumer<Counted> before, Consumer<Counted> call,
            String... but) {
        List<String> without = ask(before, x -> { });
        List<String> with = ask(before, call);
        for (int i = 0; i < with.size(); i++) {
            String subject = with.get(i).substring(0, with.get(i).indexOf(':')).split(" ")[0];
            if (!List.of(but).contains(subject)) {
                Checks.due(what + " changes nothing " + subject, with.get(i), without.get(i));
            }
        }
    }

    /** A call that must be refused with an answer, and must change nothing then. */
    private static void refused(String what, Consumer<Counted> before,
            Function<Counted, Object> call, Object answer) {
        Counted x = new Counted();
        before.accept(x);
        Checks.due(what, call.apply(x).toString(), answer.toString());
        same(what, before, y -> call.apply(y));
    }

    private static void refusedType() {
        Checks.about("a call that is refused changes nothing: type");
        for (char c : new char[] {' ', '!', '@', '[', '`', '{', '/', ':', '.', '\n', 0, 0xE9, 0xFFFF}) {
            refused("type(" + (int) c + ")", full("en-Latn"), x -> x.type(c), false);
            refused("type(" + (int) c + ")", full(""), x -> x.type(c), false);
        }
        refused("type when there are 60", full("en-x" + "-1".repeat(28)), x -> x.type('b'), false);
        refused("type when there are 60", full("=".repeat(60)), x -> x.type('='), false);
    }

    private static void refusedAlias() {
        Checks.about("a call that is refused changes nothing: alias");
        for (boolean regions : new boolean[] {false, true}) {
            for (String text : new String[] {"", "aa", "aa=", "aa=a", "aa=aa", "aa=bb=cc"}) {
                refused("alias -1 " + text, aliasesOnly(3, text), x -> x.alias(regions), -1);
                refused("alias -1 " + text, full(text), x -> x.alias(regions), -1);
            }
            refused("alias -2 read", full("ax=bb"), x -> x.alias(regions), -2);
            refused("alias -2 eight", aliasesOnly(8, "ax=bb"), x -> x.alias(regions), -2);
            refused("alias -2 likely", pairsOnly(1, false, "ax=bb"), x -> x.alias(regions), -2);
            refused("alias -2 parent", pairsOnly(1, true, "ax=bb"), x -> x.alias(regions), -2);
        }
        refused("alias -3 has one", aliasesOnly(3, "aa=bb"), x -> x.alias(false), -3);
        refused("alias -3 ring", aliasesOnly(3, "zz=ab"), x -> x.alias(false), -3);
    }

    private static void refusedRead() {
        Checks.about("a call that is refused changes nothing: read");
        refused("read of nothing", full(""), Counted::read, -1000);
        refused("read", full("e"), Counted::read, -1000);
        refused("read", full("en=de"), Counted::read, -1000);
        refused("read", full("en-b"), Counted::read, -1003);
        refused("read", full("en-US-"), Counted::read, -1006);
        refused("read", full("iw-su-u"), Counted::read, -1007);
        refused("read", full("en-rozaj-rozaj"), Counted::read, -1009);
        refused("read by a new object", x -> { }, Counted::read, -1000);
        refused("read when there are 16", sixteenTags("zz-Latn"), Counted::read, -1);
        refused("read when there are 16", sixteenTags("zz-"), Counted::read, -1003);
    }

    private static void refusedPair() {
        Checks.about("a call that is refused changes nothing: pair");
        for (boolean parent : new boolean[] {false, true}) {
            for (String text : new String[] {"", "de", "de=", "de=e", "de=de-x-a", "=de", "de=de=de"}) {
                refused("pair -1 " + text, full(text), x -> x.pair(parent), -1);
            }
            refused("pair -2 ten", pairsOnly(10, parent, "ax=zz-Zzzz-ZZ"), x -> x.pair(parent), -2);
            refused("pair -2 old", pairsOnly(2, parent, "AA=ax-Zzzz-ZZ"), x -> x.pair(parent), -2);
        }
        refused("likely without region", full("de=de-Latn"), x -> x.pair(false), -1);
        refused("likely without script", full("de=de-DE"), x -> x.pair(false), -1);
        refused("parent to itself", full("he-su=iw-ru"), x -> x.pair(true), -1);
        refused("likely of an old one", full("en=de-Latn-DE"), x -> x.pair(false), -2);
        refused("parent of an old one", full("en-gb=fr"), x -> x.pair(true), -2);
    }

    private static void refusedShow() {
        Checks.about("a call that is refused changes nothing: show");
        for (int t : new int[] {-1, 3, 16, LEAST, MOST}) {
            for (int kind = 0; kind < 4; kind++) {
                int each = kind;
                refused("show(" + t + ", " + kind + ")", full("en-"), x -> x.show(t, each), -1);
            }
        }
        for (int kind : new int[] {-1, 4, LEAST, MOST}) {
            refused("show(0, " + kind + ")", full("en-"), x -> x.show(0, kind), -1);
        }
    }

    private static void refusedSupport() {
        Checks.about("a call that is refused changes nothing: support");
        for (int t : new int[] {-1, 3, 16, LEAST, MOST}) {
            refused("support(" + t + ")", full("en-"), x -> x.support(t), false);
        }
        refused("support again", full("en-"), x -> x.support(1), false);
        refused("support again", full("en-"), x -> x.support(2), false);
    }

    private static void refusedPut() {
        Checks.about("a call that is refused changes nothing: put");
        for (int t : new int[] {-1, 3, 16, LEAST, MOST}) {
            refused("put(" + t + ", 0, 5)", full("en-"), x -> x.put(t, 0, 5), false);
        }
        for (int key : new int[] {-1, 8, LEAST, MOST}) {
            refused("put(0, " + key + ", 5)", full("en-"), x -> x.put(0, key, 5), false);
        }
    }

    private static void refusedQuestions() {
        Checks.about("a call that is refused changes nothing: fits, lookup, distance, best");
        for (int t : new int[] {-1, 3, LEAST, MOST}) {
            refused("fits(0, " + t + ")", full("en-"), x -> x.fits(0, t), false);
            refused("fits(" + t + ", 0)", full("en-"), x -> x.fits(t, 0), false);
            refused("lookup(" + t + ")", full("en-"), x -> x.lookup(t), -1);
            refused("distance(0, " + t + ")", full("en-"), x -> x.distance(0, t), -1);
            refused("distance(" + t + ", 0)", full("en-"), x -> x.distance(t, 0), -1);
            refused("best(" + t + ")", full("en-"), x -> x.best(t), -1);
        }
        refused("fits(0, 2)", full("en-"), x -> x.fits(0, 2), false);
        refused("lookup(0)", full("en-"), x -> x.lookup(0), -1);
    }

    /** A text is taken: the answer is due, and then nothing is typed, but all 60 can be. */
    private static void taken(Consumer<Counted> before, String text,
            Function<Counted, Integer> call, int answer) {
        Counted x = new Counted();
        before.accept(x);
        typed(x, text);
        Checks.due("answer to " + text, call.apply(x), answer);
        Consumer<Counted> all = y -> {
            before.accept(y);
            typed(y, text);
            call.apply(y);
        };
        same("wipe behind " + text, all, Counted::wipe);
        Counted room = new Counted();
        all.accept(room);
        Checks.due("nothing typed behind " + text, room.read(), -1000);
        typed(room, "=".repeat(60));
        Checks.due("no more than 60 behind " + text, room.type('='), false);
    }

    private static void takenByAlias() {
        Checks.about("one that takes what is typed leaves nothing typed: alias");
        taken(x -> { }, "aa=bb", x -> x.alias(false), 1);
        taken(x -> { }, "aa=bb", x -> x.alias(true), 1);
        taken(aliasesOnly(7, ""), "ax=bb", x -> x.alias(false), 8);
    }

    private static void takenByRead() {
        Checks.about("one that takes what is typed leaves nothing typed: read");
        taken(x -> { }, "en", Counted::read, 0);
        taken(full(""), "fr-FR", Counted::read, 3);
        taken(full(""), "DE", Counted::read, 2);
        taken(sixteenTags(""), "AA", Counted::read, 0);
        taken(x -> { }, "en-x" + "-1".repeat(28), Counted::read, 0);
    }

    private static void takenByPair() {
        Checks.about("one that takes what is typed leaves nothing typed: pair");
        taken(x -> { }, "en=en-Latn-US", x -> x.pair(false), 1);
        taken(x -> { }, "en=en-Latn-US", x -> x.pair(true), 1);
        taken(pairsOnly(9, false, ""), "ax=zz-Zzzz-ZZ", x -> x.pair(false), 10);
        taken(pairsOnly(9, true, ""), "ax=zz-Zzzz-ZZ", x -> x.pair(true), 10);
    }

    private static void changedByShow() {
        Checks.about("7: show changes what is shown alone");
        for (int kind = 0; kind < 4; kind++) {
            int each = kind;
            same("show(0, " + kind + ")", full("en-"), x -> x.show(0, each), "shown");
        }
    }

    private static void changedBySupport() {
        Checks.about("10: support changes what is supported alone");
        same("support(0)", full("en-"), x -> x.support(0), "supported");
    }

    private static void changedByPut() {
        Checks.about("15: put changes values alone");
        same("put(0, 0, 5)", full("en-"), x -> x.put(0, 0, 5), "values");
        same("the same value again", full("en-"), x -> x.put(2, 3, 30));
    }

    private static void changedByGet() {
        Checks.about("16: get changes what found() answers alone");
        same("get(1, 0)", full("en-"), x -> x.get(1, 0), "found");
        same("get(0, 7)", full("en-"), x -> x.get(0, 7), "found");
        same("get(-1, 0)", full("en-"), x -> x.get(-1, 0), "found");
        same("get(0, 8)", full("en-"), x -> x.get(0, 8), "found");
    }

    private static void changedByType() {
        Checks.about("2: type changes what is typed alone");
        same("type('a')", full("en-"), x -> x.type('a'), "typed");
        same("type('=')", full(""), x -> x.type('='), "typed");
    }

    private static void changedByWipe() {
        Checks.about("3: wipe changes what is typed alone");
        same("wipe()", full("en-"), Counted::wipe, "typed");
        same("wipe() of nothing", full(""), Counted::wipe);
    }

    private static void questionsChangeNothing() {
        Checks.about("a question changes nothing");
        same("questions", full("en-"), x -> {
            x.tags();
            x.shown(0);
            x.found();
            x.fits(0, 0);
            x.lookup(2);
            x.distance(0, 2);
            x.best(0);
            x.best(1);
        });
    }
}
