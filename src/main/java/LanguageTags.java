/**
 * Reads language tags, brings them into one form with aliases, fills in and takes out what is
 * likely, filters and looks up, finds the tag that is nearest to what is wanted, and gets values
 * by way of the tags behind a tag.
 *
 * <p>All rows are made by the constructor and used again; no call makes an object.
 */
public final class LanguageTags {
    private static final int MOST_TYPED = 60;
    private static final int MOST_TAGS = 16;
    private static final int MOST_ALIASES = 8;
    private static final int MOST_PAIRS = 10;
    private static final int MOST_GONE_THROUGH = 12;
    private static final int KEYS = 8;

    /** The shortest tags of many subtags are ab-x-1-1-1..: 60 characters hold 30 of them. */
    private static final int MOST_SUBTAGS = 30;

    /** Aliases may make the language and the region longer by a character each. */
    private static final int MOST_SHOWN = MOST_TYPED + 2;

    /** Language, script and region. */
    private static final int PLAIN_SUBTAGS = 3;

    private static final int NO_TAG = -1000;
    private static final int TOO_FAR = 50;

    private final Text typed;
    private final Text display;
    private final Reader reader;
    private final Aliases aliases;
    private final Pairs likelyPairs;
    private final Pairs parentPairs;
    private final Likely likely;
    private final Tag[] known;
    private final int[] supported;
    private final Form firstForm;
    private final Form secondForm;
    private final Core oneCore;
    private final Core otherCore;
    private int knownCount;
    private int supportedCount;
    private int foundPlace;

    /** Promise 1: nothing is typed, read, supported, given or shown. */
    public LanguageTags() {
        typed = new Text(MOST_TYPED);
        display = new Text(MOST_SHOWN);
        reader = new Reader();
        aliases = new Aliases();
        likelyPairs = new Pairs();
        parentPairs = new Pairs();
        likely = new Likely(likelyPairs);
        known = new Tag[MOST_TAGS];
        for (int i = 0; i < MOST_TAGS; i++) {
            known[i] = new Tag();
        }
        supported = new int[MOST_TAGS];
        firstForm = new Form(MOST_SUBTAGS);
        secondForm = new Form(MOST_SUBTAGS);
        oneCore = new Core();
        otherCore = new Core();
        knownCount = 0;
        supportedCount = 0;
        foundPlace = 0;
    }

    /** Promise 2: puts a character behind what is typed. */
    public boolean type(char c) {
        boolean allowed = Subtag.isLetter(c) || Subtag.isDigit(c) || Subtag.isCut(c) || c == '=';
        if (!allowed || typed.isFull()) {
            return false;
        }
        typed.append(c);
        return true;
    }

    /** Promise 3: nothing is typed from now on. */
    public void wipe() {
        typed.clear();
    }

    /** Promise 4: takes what is typed as an alias. */
    public int alias(boolean regions) {
        int middle = typed.placeOf('=');
        if (middle < 0) {
            return -1;
        }
        long first = Subtag.cutOut(typed, 0, middle);
        long second = Subtag.cutOut(typed, middle + 1, typed.length());
        if (!isAliasPart(first, regions) || !isAliasPart(second, regions) || first == second) {
            return -1;
        }
        if (formsAreFixed() || aliases.isFull()) {
            return -2;
        }
        if (aliases.indexOf(first, regions) >= 0 || aliases.replaced(second, regions) == first) {
            return -3;
        }
        aliases.append(first, second, regions);
        typed.clear();
        return aliases.count();
    }

    /** Promise 5: takes what is typed as a tag. */
    public int read() {
        int wrong = reader.cutTag(typed, 0, typed.length());
        if (wrong >= 0) {
            return NO_TAG - wrong;
        }
        reader.fillForm(firstForm, aliases);
        int t = tagWithForm(firstForm, firstForm.count());
        if (t < 0) {
            if (knownCount >= MOST_TAGS) {
                return -1;
            }
            t = knownCount;
            known[t].form.copyFrom(firstForm);
            knownCount++;
        }
        typed.clear();
        return t;
    }

    /** Promise 6: takes what is typed as a likely pair or a parent pair. */
    public int pair(boolean parent) {
        int middle = typed.placeOf('=');
        if (middle < 0
                || !readPlain(firstForm, 0, middle)
                || !readPlain(secondForm, middle + 1, typed.length())) {
            return -1;
        }
        boolean suited = parent
                ? !firstForm.isStartOf(secondForm, secondForm.count())
                : secondForm.core.hasScript() && secondForm.core.hasRegion();
        if (!suited) {
            return -1;
        }
        Pairs pairs = parent ? parentPairs : likelyPairs;
        if (pairs.isFull() || pairs.formBehind(firstForm, firstForm.count()) != null) {
            return -2;
        }
        pairs.append(firstForm, secondForm);
        typed.clear();
        return pairs.count();
    }

    /** Promise 7: shows a form of a tag. */
    public int show(int t, int kind) {
        if (!isTag(t) || kind < 0 || kind > 3) {
            return -1;
        }
        Form form = known[t].form;
        display.clear();
        if (kind == 0) {
            form.writeTo(display);
        } else if (kind == 1) {
            form.core.writeTo(display);
        } else {
            if (kind == 2) {
                likely.maximise(form.core, oneCore);
            } else {
                likely.minimise(form.core, oneCore);
            }
            oneCore.writeTo(display);
        }
        return display.length();
    }

    /** Promise 8: the character at a place of what is shown. */
    public char shown(int i) {
        return display.at(i);
    }

    /** Promise 9: how many tags were read. */
    public int tags() {
        return knownCount;
    }

    /** Promise 10: a tag is supported from now on. */
    public boolean support(int t) {
        if (!isTag(t) || known[t].supported || supportedCount >= MOST_TAGS) {
            return false;
        }
        known[t].supported = true;
        supported[supportedCount] = t;
        supportedCount++;
        return true;
    }

    /** Promise 11: whether tag t fits tag range. */
    public boolean fits(int range, int t) {
        return isTag(range) && isTag(t) && known[t].form.isWithin(known[range].form);
    }

    /** Promise 12: the supported tag that truncating the form of a tag comes to first. */
    public int lookup(int t) {
        if (!isTag(t)) {
            return -1;
        }
        Form form = known[t].form;
        int count = form.count();
        for (int step = 0; step < MOST_SUBTAGS && count > 0; step++) {
            int other = tagWithForm(form, count);
            if (other >= 0 && known[other].supported) {
                return other;
            }
            count = form.truncated(count);
        }
        return -1;
    }

    /** Promise 13: the distance of two tags. */
    public int distance(int a, int b) {
        return isTag(a) && isTag(b) ? distanceOf(a, b) : -1;
    }

    /** Promise 14: the nearest supported tag. */
    public int best(int t) {
        if (!isTag(t)) {
            return -1;
        }
        int nearest = -1;
        int least = TOO_FAR;
        for (int i = 0; i < supportedCount; i++) {
            int far = distanceOf(supported[i], t);
            if (far < least) {
                least = far;
                nearest = supported[i];
            }
        }
        return nearest;
    }

    /** Promise 15: a tag has a value for a key from now on. */
    public boolean put(int t, int key, int v) {
        if (!isTag(t) || !isKey(key)) {
            return false;
        }
        known[t].give(key, v);
        return true;
    }

    /** Promise 16: the value for a key by way of a tag. */
    public int get(int t, int key) {
        foundPlace = 0;
        if (!isTag(t) || !isKey(key)) {
            return 0;
        }
        Form form = known[t].form;
        int count = form.count();
        for (int place = 1; place <= MOST_GONE_THROUGH && count > 0; place++) {
            int other = tagWithForm(form, count);
            if (other >= 0 && known[other].hasValue(key)) {
                foundPlace = place;
                return known[other].valueOf(key);
            }
            Form parent = parentPairs.formBehind(form, count);
            if (parent == null) {
                count = form.truncated(count);
            } else {
                form = parent;
                count = parent.count();
            }
        }
        return 0;
    }

    /** Promise 17: at which place the latest get() found its value. */
    public int found() {
        return foundPlace;
    }

    private boolean isTag(int t) {
        return t >= 0 && t < knownCount;
    }

    private static boolean isKey(int key) {
        return key >= 0 && key < KEYS;
    }

    private static boolean isAliasPart(long subtag, boolean region) {
        return region ? Subtag.isRegion(subtag) : Subtag.isLanguage(subtag);
    }

    /** An alias may not change a form that is already held. */
    private boolean formsAreFixed() {
        return knownCount > 0 || likelyPairs.count() > 0 || parentPairs.count() > 0;
    }

    /** Fills a form from a part of what is typed; false when that is no plain tag. */
    private boolean readPlain(Form form, int from, int to) {
        if (reader.cutTag(typed, from, to) >= 0) {
            return false;
        }
        reader.fillForm(form, aliases);
        return form.isPlain();
    }

    /** The tag whose form is the first subtags of a form; -1 when there is none. */
    private int tagWithForm(Form form, int count) {
        for (int i = 0; i < knownCount; i++) {
            if (known[i].form.isStartOf(form, count)) {
                return i;
            }
        }
        return -1;
    }

    private int distanceOf(int a, int b) {
        likely.maximise(known[a].form.core, oneCore);
        likely.maximise(known[b].form.core, otherCore);
        return oneCore.apartFrom(otherCore);
    }

    /**
     * What can be asked of one subtag. A subtag is a long: its characters lie from the highest
     * byte down, so that two subtags compare as numbers in the order of their characters, and a
     * shorter one comes before a longer one that begins with it.
     */
    private static final class Subtag {
        /** No subtag, or one that can stand nowhere. */
        static final long NONE = 0L;

        static final int MOST_CHARACTERS = 8;
        static final long U = (long) 'u' << 56;
        static final long X = (long) 'x' << 56;
        static final long UND = U | (long) 'n' << 48 | (long) 'd' << 40;
        static final long TRUE =
                (long) 't' << 56 | (long) 'r' << 48 | (long) 'u' << 40 | (long) 'e' << 32;

        /** The bit that makes a capital letter a small one, in the first byte and in all. */
        private static final long FIRST_CASE = 0x2000000000000000L;
        private static final long ALL_CASES = 0x2020202020202020L;

        private Subtag() {
        }

        static boolean isLetter(char c) {
            return c >= 'a' && c <= 'z' || c >= 'A' && c <= 'Z';
        }

        static boolean isDigit(char c) {
            return c >= '0' && c <= '9';
        }

        static boolean isCut(char c) {
            return c == '-' || c == '_';
        }

        /** A part of a text in small letters; NONE when it is not 1 to 8 letters or digits. */
        static long cutOut(Text text, int from, int to) {
            int length = to - from;
            if (length < 1 || length > MOST_CHARACTERS) {
                return NONE;
            }
            long subtag = NONE;
            for (int i = 0; i < length; i++) {
                char c = text.at(from + i);
                if (!isLetter(c) && !isDigit(c)) {
                    return NONE;
                }
                // Digits have this bit already.
                long small = c | 0x20;
                subtag |= small << (56 - 8 * i);
            }
            return subtag;
        }

        /** The character at a place; the character 0 behind the last one. */
        static char at(long subtag, int i) {
            return i < 0 || i >= MOST_CHARACTERS ? 0 : (char) ((subtag >>> (56 - 8 * i)) & 0xFF);
        }

        static int lengthOf(long subtag) {
            int length = 0;
            for (int i = 0; i < MOST_CHARACTERS; i++) {
                if (at(subtag, i) != 0) {
                    length++;
                }
            }
            return length;
        }

        static boolean isLanguage(long subtag) {
            int length = lengthOf(subtag);
            return (length == 2 || length == 3) && letters(subtag) == length;
        }

        static boolean isScript(long subtag) {
            return lengthOf(subtag) == 4 && letters(subtag) == 4;
        }

        static boolean isRegion(long subtag) {
            int length = lengthOf(subtag);
            return length == 2 && letters(subtag) == 2 || length == 3 && letters(subtag) == 0;
        }

        static boolean isVariant(long subtag) {
            int length = lengthOf(subtag);
            return length >= 5 || length == 4 && isDigit(at(subtag, 0));
        }

        static boolean isKey(long subtag) {
            return lengthOf(subtag) == 2 && isLetter(at(subtag, 1));
        }

        static boolean isType(long subtag) {
            return lengthOf(subtag) >= 3;
        }

        /** A subtag of small letters alone with a capital one in front; NONE stays NONE. */
        static long titled(long subtag) {
            return subtag & ~FIRST_CASE;
        }

        /** A region in capitals; one of digits stays, since digits have no capitals. */
        static long capitals(long subtag) {
            return letters(subtag) == 0 ? subtag : subtag & ~ALL_CASES;
        }

        private static int letters(long subtag) {
            int letters = 0;
            for (int i = 0; i < MOST_CHARACTERS; i++) {
                if (isLetter(at(subtag, i))) {
                    letters++;
                }
            }
            return letters;
        }
    }

    /** A text of few characters, in a row that is made once. */
    private static final class Text {
        private final char[] row;
        private int length;

        Text(int most) {
            row = new char[most];
            length = 0;
        }

        int length() {
            return length;
        }

        boolean isFull() {
            return length >= row.length;
        }

        void clear() {
            length = 0;
        }

        void append(char c) {
            if (!isFull()) {
                row[length] = c;
                length++;
            }
        }

        /** Puts a subtag behind the text, with a - between them. */
        void appendSubtag(long subtag) {
            if (length > 0) {
                append('-');
            }
            int end = Subtag.lengthOf(subtag);
            for (int i = 0; i < end; i++) {
                append(Subtag.at(subtag, i));
            }
        }

        /** The character at a place; a space when there is none. */
        char at(int i) {
            return i < 0 || i >= length ? ' ' : row[i];
        }

        /** The first place of a character; -1 when there is none. */
        int placeOf(char c) {
            for (int i = 0; i < length; i++) {
                if (row[i] == c) {
                    return i;
                }
            }
            return -1;
        }
    }

    /** Language, script and region as they stand in a form; NONE for what is not there. */
    private static final class Core {
        private long language;
        private long script;
        private long region;

        Core() {
            language = Subtag.NONE;
            script = Subtag.NONE;
            region = Subtag.NONE;
        }

        void assign(long newLanguage, long newScript, long newRegion) {
            language = newLanguage;
            script = newScript;
            region = newRegion;
        }

        void copyFrom(Core other) {
            assign(other.language, other.script, other.region);
        }

        boolean hasScript() {
            return script != Subtag.NONE;
        }

        boolean hasRegion() {
            return region != Subtag.NONE;
        }

        boolean isUnd() {
            return language == Subtag.UND;
        }

        int count() {
            return 1 + (hasScript() ? 1 : 0) + (hasRegion() ? 1 : 0);
        }

        boolean isMadeOf(long otherLanguage, long otherScript, long otherRegion) {
            return language == otherLanguage && script == otherScript && region == otherRegion;
        }

        boolean isSame(Core other) {
            return isMadeOf(other.language, other.script, other.region);
        }

        /** Takes from another one what is not there; und counts as no language. */
        void fillFrom(Core other) {
            assign(isUnd() ? other.language : language,
                    hasScript() ? script : other.script,
                    hasRegion() ? region : other.region);
        }

        int apartFrom(Core other) {
            int far = language == other.language ? 0 : 80;
            if (script != other.script) {
                far += 40;
            }
            if (region != other.region) {
                far += hasRegion() && other.hasRegion() ? 5 : 2;
            }
            return far;
        }

        void writeTo(Text text) {
            text.appendSubtag(language);
            if (hasScript()) {
                text.appendSubtag(script);
            }
            if (hasRegion()) {
                text.appendSubtag(region);
            }
        }
    }

    /** The form of a tag: its subtags in a row, and the first ones of them by name. */
    private static final class Form {
        private final Core core;
        private final long[] parts;
        private int count;

        Form(int most) {
            core = new Core();
            parts = new long[most];
            count = 0;
        }

        int count() {
            return count;
        }

        /** The subtag at a place; NONE when there is none. */
        long at(int i) {
            return i < 0 || i >= count ? Subtag.NONE : parts[i];
        }

        boolean isPlain() {
            return count == core.count();
        }

        void begin(long language, long script, long region) {
            core.assign(language, script, region);
            count = 0;
            append(language);
            if (core.hasScript()) {
                append(script);
            }
            if (core.hasRegion()) {
                append(region);
            }
        }

        void append(long subtag) {
            if (count < parts.length) {
                parts[count] = subtag;
                count++;
            }
        }

        void copyFrom(Form other) {
            core.copyFrom(other.core);
            count = 0;
            for (int i = 0; i < other.count; i++) {
                append(other.at(i));
            }
        }

        /** Whether this is the first subtags, so many of them, of a form. */
        boolean isStartOf(Form other, int otherCount) {
            if (count != otherCount) {
                return false;
            }
            for (int i = 0; i < count; i++) {
                if (at(i) != other.at(i)) {
                    return false;
                }
            }
            return true;
        }

        /** How many subtags are left of the first ones of this form when those are truncated. */
        int truncated(int some) {
            int left = some - 1;
            return Subtag.lengthOf(at(left - 1)) == 1 ? left - 1 : left;
        }

        /** Whether this form has the language and, in turn, the further subtags of a range. */
        boolean isWithin(Form range) {
            if (at(0) != range.at(0)) {
                return false;
            }
            int wanted = 1;
            for (int i = 1; i < count && wanted < range.count; i++) {
                if (at(i) == range.at(wanted)) {
                    wanted++;
                } else if (Subtag.lengthOf(at(i)) == 1) {
                    return false;
                }
            }
            return wanted >= range.count;
        }

        void writeTo(Text text) {
            for (int i = 0; i < count; i++) {
                text.appendSubtag(at(i));
            }
        }
    }

    /** The aliases of both kinds, in small letters. */
    private static final class Aliases {
        private final long[] firsts;
        private final long[] seconds;
        private final boolean[] ofRegions;
        private int count;

        Aliases() {
            firsts = new long[MOST_ALIASES];
            seconds = new long[MOST_ALIASES];
            ofRegions = new boolean[MOST_ALIASES];
            count = 0;
        }

        int count() {
            return count;
        }

        boolean isFull() {
            return count >= MOST_ALIASES;
        }

        void append(long first, long second, boolean regions) {
            if (!isFull()) {
                firsts[count] = first;
                seconds[count] = second;
                ofRegions[count] = regions;
                count++;
            }
        }

        /** The place of the alias of a subtag; -1 when it has none. */
        int indexOf(long subtag, boolean regions) {
            for (int i = 0; i < count; i++) {
                if (firsts[i] == subtag && ofRegions[i] == regions) {
                    return i;
                }
            }
            return -1;
        }

        /** No alias is met twice, since none is taken that would close a ring. */
        long replaced(long subtag, boolean regions) {
            long now = subtag;
            for (int step = 0; step < count; step++) {
                int i = indexOf(now, regions);
                if (i < 0) {
                    return now;
                }
                now = seconds[i];
            }
            return now;
        }
    }

    /** Cuts a text into the subtags of a tag and brings them into the form. */
    private static final class Reader {
        /**
         * What a subtag is in its tag, numbered in the order in which they stand there (but for
         * the keys behind types).
         */
        private static final int NOTHING = 0;
        private static final int LANGUAGE = 1;
        private static final int SCRIPT = 2;
        private static final int REGION = 3;
        private static final int VARIANT = 4;
        private static final int EXTENSION = 5;
        private static final int KEY = 6;
        private static final int TYPE = 7;
        private static final int PRIVATE_MARK = 8;
        private static final int PRIVATE = 9;

        private final long[] parts;
        private final int[] roles;
        private int count;

        Reader() {
            parts = new long[MOST_SUBTAGS];
            roles = new int[MOST_SUBTAGS];
            count = 0;
        }

        /**
         * Cuts a part of a text into subtags: -1 when it is a tag, otherwise the place in that
         * part where it is wrong.
         */
        int cutTag(Text text, int from, int to) {
            count = 0;
            int role = NOTHING;
            int start = from;
            for (int i = from; i <= to; i++) {
                if (i < to && !Subtag.isCut(text.at(i))) {
                    continue;
                }
                long subtag = Subtag.cutOut(text, start, i);
                role = roleOf(subtag, role);
                if (role == NOTHING || count >= MOST_SUBTAGS) {
                    return start - from;
                }
                parts[count] = subtag;
                roles[count] = role;
                count++;
                start = i + 1;
            }
            return role == EXTENSION || role == PRIVATE_MARK ? to - from : -1;
        }

        /** Brings the tag that was cut into its form. */
        void fillForm(Form form, Aliases aliases) {
            long language = aliases.replaced(partWith(LANGUAGE), false);
            long script = Subtag.titled(partWith(SCRIPT));
            long region = Subtag.capitals(aliases.replaced(partWith(REGION), true));
            form.begin(language, script, region);
            addInOrder(form, VARIANT);
            if (partWith(EXTENSION) != Subtag.NONE) {
                form.append(Subtag.U);
                addInOrder(form, KEY);
            }
            addPrivate(form);
        }

        /** What a subtag is behind one of a role; NOTHING when it can't stand there. */
        private int roleOf(long subtag, int before) {
            if (subtag == Subtag.NONE) {
                return NOTHING;
            }
            if (before == NOTHING) {
                return Subtag.isLanguage(subtag) ? LANGUAGE : NOTHING;
            }
            if (before >= PRIVATE_MARK) {
                return PRIVATE;
            }
            if (subtag == Subtag.X) {
                return before == EXTENSION ? NOTHING : PRIVATE_MARK;
            }
            return before >= EXTENSION
                    ? roleInExtension(subtag, before)
                    : roleInFront(subtag, before);
        }

        private int roleInFront(long subtag, int before) {
            if (subtag == Subtag.U) {
                return EXTENSION;
            }
            if (before < SCRIPT && Subtag.isScript(subtag)) {
                return SCRIPT;
            }
            if (before < REGION && Subtag.isRegion(subtag)) {
                return REGION;
            }
            return Subtag.isVariant(subtag) && !isThere(subtag, VARIANT) ? VARIANT : NOTHING;
        }

        private int roleInExtension(long subtag, int before) {
            if (Subtag.isKey(subtag)) {
                return isThere(subtag, KEY) ? NOTHING : KEY;
            }
            return before != EXTENSION && Subtag.isType(subtag) ? TYPE : NOTHING;
        }

        private boolean isThere(long subtag, int role) {
            for (int i = 0; i < count; i++) {
                if (roles[i] == role && parts[i] == subtag) {
                    return true;
                }
            }
            return false;
        }

        private long partWith(int role) {
            for (int i = 0; i < count; i++) {
                if (roles[i] == role) {
                    return parts[i];
                }
            }
            return Subtag.NONE;
        }

        /** Adds the subtags of a role, no two of which are the same, each with its types. */
        private void addInOrder(Form form, int role) {
            long latest = Subtag.NONE;
            for (int n = 0; n < count; n++) {
                int next = leastAbove(latest, role);
                if (next < 0) {
                    return;
                }
                latest = parts[next];
                form.append(latest);
                addTypes(form, next);
            }
        }

        private int leastAbove(long bound, int role) {
            int least = -1;
            for (int i = 0; i < count; i++) {
                if (roles[i] == role && parts[i] > bound
                        && (least < 0 || parts[i] < parts[least])) {
                    least = i;
                }
            }
            return least;
        }

        private void addTypes(Form form, int key) {
            int end = key + 1;
            for (int i = key + 1; i < count && roles[i] == TYPE; i++) {
                end = i + 1;
            }
            if (end == key + 2 && parts[key + 1] == Subtag.TRUE) {
                return;
            }
            for (int i = key + 1; i < end; i++) {
                form.append(parts[i]);
            }
        }

        private void addPrivate(Form form) {
            for (int i = 0; i < count; i++) {
                if (roles[i] >= PRIVATE_MARK) {
                    form.append(parts[i]);
                }
            }
        }
    }

    /** Pairs of one kind: each leads from the form of a plain tag to another. */
    private static final class Pairs {
        private final Form[] firsts;
        private final Form[] seconds;
        private int count;

        Pairs() {
            firsts = new Form[MOST_PAIRS];
            seconds = new Form[MOST_PAIRS];
            for (int i = 0; i < MOST_PAIRS; i++) {
                firsts[i] = new Form(PLAIN_SUBTAGS);
                seconds[i] = new Form(PLAIN_SUBTAGS);
            }
            count = 0;
        }

        int count() {
            return count;
        }

        boolean isFull() {
            return count >= MOST_PAIRS;
        }

        void append(Form first, Form second) {
            if (!isFull()) {
                firsts[count].copyFrom(first);
                seconds[count].copyFrom(second);
                count++;
            }
        }

        /** To what a pair leads from the first subtags of a form; null when none does. */
        Form formBehind(Form form, int formCount) {
            for (int i = 0; i < count; i++) {
                if (firsts[i].isStartOf(form, formCount)) {
                    return seconds[i];
                }
            }
            return null;
        }

        /** To what a pair leads from these; null when none does. */
        Core coreBehind(long language, long script, long region) {
            for (int i = 0; i < count; i++) {
                if (firsts[i].core.isMadeOf(language, script, region)) {
                    return seconds[i].core;
                }
            }
            return null;
        }
    }

    /** Fills in and takes out what the likely pairs say. */
    private static final class Likely {
        private final Pairs pairs;
        private final Core whole;
        private final Core trial;
        private final Core trialWhole;

        Likely(Pairs likelyPairs) {
            pairs = likelyPairs;
            whole = new Core();
            trial = new Core();
            trialWhole = new Core();
        }

        void maximise(Core tag, Core out) {
            out.copyFrom(tag);
            if (tag.hasScript() && tag.hasRegion() && !tag.isUnd()) {
                return;
            }
            Core source = sourceFor(tag);
            if (source != null) {
                out.fillFrom(source);
            }
        }

        void minimise(Core tag, Core out) {
            maximise(tag, whole);
            out.copyFrom(whole);
            if (isEnough(Subtag.NONE, Subtag.NONE)
                    || whole.hasRegion() && isEnough(Subtag.NONE, whole.region)
                    || whole.hasScript() && isEnough(whole.script, Subtag.NONE)) {
                out.copyFrom(trial);
            }
        }

        /** Makes the trial of the language and these: whether maximising it gives the whole. */
        private boolean isEnough(long script, long region) {
            trial.assign(whole.language, script, region);
            maximise(trial, trialWhole);
            return trialWhole.isSame(whole);
        }

        /** To what the first likely pair leads that is meant for a tag; null when there is none. */
        private Core sourceFor(Core tag) {
            Core source = null;
            if (tag.hasScript() && tag.hasRegion()) {
                source = pairs.coreBehind(tag.language, tag.script, tag.region);
            }
            if (source == null && tag.hasRegion()) {
                source = pairs.coreBehind(tag.language, Subtag.NONE, tag.region);
            }
            if (source == null && tag.hasScript()) {
                source = pairs.coreBehind(tag.language, tag.script, Subtag.NONE);
            }
            if (source == null) {
                source = pairs.coreBehind(tag.language, Subtag.NONE, Subtag.NONE);
            }
            if (source == null && tag.hasScript()) {
                source = pairs.coreBehind(Subtag.UND, tag.script, Subtag.NONE);
            }
            return source;
        }
    }

    /** A tag that was read. */
    private static final class Tag {
        private final Form form;
        private final int[] values;
        private final boolean[] given;
        private boolean supported;

        Tag() {
            form = new Form(MOST_SUBTAGS);
            values = new int[KEYS];
            given = new boolean[KEYS];
            supported = false;
        }

        void give(int key, int value) {
            if (isKey(key)) {
                values[key] = value;
                given[key] = true;
            }
        }

        boolean hasValue(int key) {
            return isKey(key) && given[key];
        }

        int valueOf(int key) {
            return isKey(key) ? values[key] : 0;
        }
    }
}
