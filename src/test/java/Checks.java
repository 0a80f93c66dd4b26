/** Counts the answers that are not as due, and types texts into an object. */
final class Checks {
    private static int wrong = 0;
    private static int made = 0;
    private static String sentence = "";

    private Checks() {
    }

    /** The sentence of the document that the checks behind this belong to. */
    static void about(String words) {
        sentence = words + " | ";
    }

    static void due(String what, long got, long want) {
        made++;
        if (got != want) {
            wrong++;
            System.out.println(sentence + what + " answered " + got + ", due is " + want);
        }
    }

    static void due(String what, boolean got, boolean want) {
        due(what, got ? 1 : 0, want ? 1 : 0);
    }

    static void due(String what, String got, String want) {
        made++;
        if (!got.equals(want)) {
            wrong++;
            System.out.println(sentence + what + " answered \"" + got + "\", due is \"" + want
                    + "\"");
        }
    }

    static void finish() {
        System.out.println(wrong == 0 ? made + " answers are as due" : wrong + " answers are wrong");
        if (wrong != 0) {
            System.exit(1);
        }
    }

    /** Types a text in place of what is typed; every character must be taken. */
    static void typed(Counted x, String text) {
        x.wipe();
        for (int i = 0; i < text.length(); i++) {
            due("type of place " + i + " of " + text, x.type(text.charAt(i)), true);
        }
    }

    static int read(Counted x, String text) {
        typed(x, text);
        return x.read();
    }

    static int alias(Counted x, String text, boolean regions) {
        typed(x, text);
        return x.alias(regions);
    }

    static int likely(Counted x, String text) {
        typed(x, text);
        return x.pair(false);
    }

    static int parent(Counted x, String text) {
        typed(x, text);
        return x.pair(true);
    }

    /** What is shown, up to the first space. */
    static String shown(Counted x) {
        StringBuilder text = new StringBuilder();
        char c = x.shown(0);
        while (c != ' ') {
            text.append(c);
            c = x.shown(text.length());
        }
        return text.toString();
    }

    /** Shows a tag, and checks that show() answers how long it is. */
    static String show(Counted x, int t, int kind) {
        int length = x.show(t, kind);
        String text = shown(x);
        due("show(" + t + ", " + kind + ")", length, text.length());
        return text;
    }

    /** The form of a text that is the first tag of a new object. */
    static String formOf(String text) {
        Counted x = new Counted();
        due("read of " + text, read(x, text), 0);
        return show(x, 0, 0);
    }
}
