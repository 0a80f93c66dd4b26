/** Many runs of mixed calls, whose answers must be those of the model. The runs are always the same. */
public final class ModelTest {
    private static final int RUNS = 6000;

    /** How many calls a step may make behind its typing. */
    private static final int LONGEST_STEP = 45;

    private static final String[] LANGUAGES = {"en", "de", "und", "iw", "he", "heb", "zh"};
    private static final String[] SCRIPTS = {"Latn", "Arab", "Hans"};
    private static final String[] REGIONS = {"US", "GB", "840", "su", "RU"};
    private static final String[] VARIANTS = {"rozaj", "1994", "biske", "1ab2", "rozaj1", "abcdefgh"};
    private static final String[] KEYS = {"co", "nu", "1a", "ca"};
    private static final String[] TYPES = {"true", "abc", "phonebk", "latn", "12345678"};
    private static final String[] OWN = {"a", "b", "x", "u", "us", "12345678", "co", "Z1"};
    private static final String ODD = "-_=aZ09x u!";

    private final Counted object = new Counted();
    private final Model model = new Model();
    private final StringBuilder log = new StringBuilder();
    private final int run;
    private final boolean dense;
    private long state;

    private ModelTest(int run) {
        this.run = run;
        this.state = run * 7919L + 12345L;
        // Runs of short tags alone come further with reading, pairs and what is likely.
        this.dense = run % 2 == 0;
    }

    public static void main(String[] args) {
        for (int run = 0; run < RUNS; run++) {
            new ModelTest(run).go();
        }
        Checks.finish();
    }

    private int below(int bound) {
        state = state * 6364136223846793005L + 1442695040888963407L;
        return (int) ((state >>> 33) % bound);
    }

    private String oneOf(String[] texts) {
        return texts[below(texts.length)];
    }

    private void same(String call, long got, long want) {
        log.append(call).append(' ');
        Checks.due("run " + run + ": " + (got == want ? call : log.toString()), got, want);
    }

    private void same(String call, boolean got, boolean want) {
        same(call, got ? 1 : 0, want ? 1 : 0);
    }

    private void go() {
        int aliases = below(6);
        for (int i = 0; i < aliases && object.callsLeft() > LONGEST_STEP; i++) {
            boolean regions = below(2) == 0;
            type(aliasText(regions));
            same("alias(" + regions + ")", object.alias(regions), model.alias(regions));
            wipeNowAndThen();
        }
        while (object.callsLeft() > LONGEST_STEP) {
            step();
        }
    }

    private void wipeNowAndThen() {
        if (below(8) != 0) {
            log.append("wipe() ");
            object.wipe();
            model.wipe();
        }
    }

    private void type(String text) {
        for (int i = 0; i < text.length() && object.callsLeft() > LONGEST_STEP; i++) {
            char c = text.charAt(i);
            same("type(" + c + ")", object.type(c), model.type(c));
        }
    }

    private void step() {
        int kind = below(20);
        if (kind < 4) {
            type(tagText());
            same("read()", object.read(), model.read());
            wipeNowAndThen();
        } else if (kind < 6) {
            boolean parent = below(2) == 0;
            type(pairText(parent));
            same("pair(" + parent + ")", object.pair(parent), model.pair(parent));
            wipeNowAndThen();
        } else if (kind == 6) {
            boolean regions = below(2) == 0;
            same("alias(" + regions + ")", object.alias(regions), model.alias(regions));
        } else if (kind < 9) {
            show();
        } else {
            ask(kind, number(), number());
        }
    }

    private void show() {
        int t = number();
        int kind = below(8) == 0 ? below(9) - 3 : below(4);
        same("show(" + t + ", " + kind + ")", object.show(t, kind), model.show(t, kind));
        StringBuilder got = new StringBuilder();
        StringBuilder want = new StringBuilder();
        for (int i = 0; i < (kind == 0 ? 40 : 14); i++) {
            got.append(object.shown(i));
            want.append(model.shown(i));
        }
        Checks.due("run " + run + ": shown", got.toString(), want.toString());
    }

    private void ask(int kind, int a, int b) {
        if (kind < 11) {
            same("support(" + a + ")", object.support(a), model.support(a));
        } else if (kind == 11) {
            same("fits(" + a + ", " + b + ")", object.fits(a, b), model.fits(a, b));
        } else if (kind == 12) {
            same("lookup(" + a + ")", object.lookup(a), model.lookup(a));
        } else if (kind == 13) {
            same("distance(" + a + ", " + b + ")", object.distance(a, b), model.distance(a, b));
        } else if (kind == 14) {
            same("best(" + a + ")", object.best(a), model.best(a));
        } else if (kind == 15) {
            int key = below(12) == 0 ? below(12) - 2 : below(4);
            int v = below(7) - 3;
            same("put(" + a + ", " + key + ", " + v + ")", object.put(a, key, v), model.put(a, key, v));
        } else if (kind < 19) {
            int key = below(12) == 0 ? below(12) - 2 : below(4);
            same("get(" + a + ", " + key + ")", object.get(a, key), model.get(a, key));
            same("found()", object.found(), model.found());
        } else {
            same("tags()", object.tags(), model.tags());
        }
    }

    /** Mostly the number of a tag, now and then one just beside. */
    private int number() {
        int count = model.tags();
        return below(10) == 0 ? below(19) - 2 : count == 0 ? 0 : below(count);
    }

    private String aliasText(boolean regions) {
        String[] texts = regions ? REGIONS : LANGUAGES;
        return odd(cased(oneOf(texts)) + "=" + cased(oneOf(texts)));
    }

    private String pairText(boolean parent) {
        String first = below(8) == 0 ? tagText() : shortText();
        String second = parent || below(10) == 0 ? shortText()
                : oneOf(LANGUAGES) + "-" + oneOf(SCRIPTS) + "-" + oneOf(REGIONS);
        return odd(first + "=" + cased(second));
    }

    private String shortText() {
        StringBuilder text = new StringBuilder(oneOf(LANGUAGES));
        if (below(3) == 0) {
            text.append('-').append(oneOf(SCRIPTS));
        }
        if (below(2) == 0) {
            text.append('-').append(oneOf(REGIONS));
        }
        return text.toString();
    }

    private String tagText() {
        StringBuilder text = new StringBuilder(shortText());
        int more = dense && below(4) != 0 ? 0 : below(8);
        for (int i = below(3); more % 2 == 1 && i > 0; i--) {
            text.append('-').append(oneOf(VARIANTS));
        }
        if (more / 2 % 2 == 1) {
            text.append("-u");
            for (int i = 1 + below(3); i > 0; i--) {
                text.append('-').append(oneOf(KEYS));
                for (int j = below(3); j > 0; j--) {
                    text.append('-').append(oneOf(TYPES));
                }
            }
        }
        if (more / 4 == 1) {
            text.append("-x");
            for (int i = 1 + below(3); i > 0; i--) {
                text.append('-').append(oneOf(OWN));
            }
        }
        return odd(cased(text.toString()));
    }

    /** The same text in other letters, and with _ for some -. */
    private String cased(String text) {
        StringBuilder other = new StringBuilder();
        for (int i = 0; i < text.length(); i++) {
            char c = text.charAt(i);
            boolean change = below(4) == 0;
            other.append(change && c == '-' ? '_' : change ? Character.toUpperCase(c) : c);
        }
        return other.toString();
    }

    /** Now and then a text with a character in it, or left out of it. */
    private String odd(String text) {
        int place = below(text.length());
        int kind = below(24);
        if (kind == 0) {
            return text.substring(0, place) + ODD.charAt(below(ODD.length())) + text.substring(place);
        }
        return kind == 1 ? text.substring(0, place) + text.substring(place + 1)
                : kind == 2 ? text.substring(0, place) : text;
    }
}
