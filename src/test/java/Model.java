import java.util.ArrayList;
import java.util.Arrays;
import java.util.HashSet;
import java.util.LinkedHashMap;
import java.util.List;
import java.util.Map;
import java.util.Set;
import java.util.TreeMap;
import java.util.TreeSet;
import java.util.regex.Pattern;

/** The document once more, with texts and the Java library, to compare answers with. */
final class Model {
    private static final Pattern TAG = Pattern.compile("[a-z]{2,3}(-[a-z]{4})?"
            + "(-([a-z]{2}|[0-9]{3}))?(-([a-z0-9]{5,8}|[0-9][a-z0-9]{3}))*"
            + "(-u(-[a-z0-9][a-z](-[a-z0-9]{3,8})*)+)?(-x(-[a-z0-9]{1,8})+)?");

    private String typed = "";
    private String shown = "";
    private int found = 0;
    private final Map<String, String> languageAliases = new LinkedHashMap<>();
    private final Map<String, String> regionAliases = new LinkedHashMap<>();
    private final Map<String, String> likely = new LinkedHashMap<>();
    private final Map<String, String> parents = new LinkedHashMap<>();
    private final List<String> forms = new ArrayList<>();
    private final List<Integer> supported = new ArrayList<>();
    private final Map<String, Integer> values = new LinkedHashMap<>();

    boolean type(char c) {
        if (typed.length() >= 60 || !Pattern.matches("[a-zA-Z0-9=_-]", String.valueOf(c))) {
            return false;
        }
        typed += c;
        return true;
    }

    void wipe() {
        typed = "";
    }

    int alias(boolean regions) {
        String[] two = typed.toLowerCase().split("=", -1);
        String part = regions ? "[a-z]{2}|[0-9]{3}" : "[a-z]{2,3}";
        if (two.length != 2 || !two[0].matches(part) || !two[1].matches(part)
                || two[0].equals(two[1])) {
            return -1;
        }
        int count = languageAliases.size() + regionAliases.size();
        if (forms.size() + likely.size() + parents.size() > 0 || count >= 8) {
            return -2;
        }
        Map<String, String> aliases = regions ? regionAliases : languageAliases;
        if (aliases.containsKey(two[0]) || replaced(two[1], aliases).equals(two[0])) {
            return -3;
        }
        aliases.put(two[0], two[1]);
        typed = "";
        return count + 1;
    }

    int read() {
        if (!isTag(typed)) {
            return -1000 - wrongPlace(typed);
        }
        String form = form(typed);
        if (!forms.contains(form)) {
            if (forms.size() >= 16) {
                return -1;
            }
            forms.add(form);
        }
        typed = "";
        return forms.indexOf(form);
    }

    int pair(boolean parent) {
        String[] two = typed.split("=", -1);
        if (two.length != 2 || !isTag(two[0]) || !isTag(two[1])) {
            return -1;
        }
        String first = form(two[0]);
        String second = form(two[1]);
        if (!first.equals(shortForm(first)) || !second.equals(shortForm(second))) {
            return -1;
        }
        if (parent ? first.equals(second) : second.split("-").length != 3) {
            return -1;
        }
        Map<String, String> pairs = parent ? parents : likely;
        if (pairs.containsKey(first) || pairs.size() >= 10) {
            return -2;
        }
        pairs.put(first, second);
        typed = "";
        return pairs.size();
    }

    int show(int t, int kind) {
        if (!has(t) || kind < 0 || kind > 3) {
            return -1;
        }
        String form = forms.get(t);
        shown = kind == 0 ? form : kind == 1 ? shortForm(form)
                : kind == 2 ? maximised(form) : minimised(form);
        return shown.length();
    }

    char shown(int i) {
        return i < 0 || i >= shown.length() ? ' ' : shown.charAt(i);
    }

    int tags() {
        return forms.size();
    }

    boolean support(int t) {
        return has(t) && !supported.contains(t) && supported.add(t);
    }

    boolean fits(int range, int t) {
        if (!has(range) || !has(t)) {
            return false;
        }
        List<String> wanted = new ArrayList<>(Arrays.asList(forms.get(range).split("-")));
        List<String> there = new ArrayList<>(Arrays.asList(forms.get(t).split("-")));
        if (!wanted.remove(0).equals(there.remove(0))) {
            return false;
        }
        for (String subtag : wanted) {
            while (!there.isEmpty() && !there.get(0).equals(subtag) && there.get(0).length() > 1) {
                there.remove(0);
            }
            if (there.isEmpty() || !there.remove(0).equals(subtag)) {
                return false;
            }
        }
        return true;
    }

    int lookup(int t) {
        for (String form = has(t) ? forms.get(t) : ""; !form.isEmpty(); form = truncated(form)) {
            int other = forms.indexOf(form);
            if (supported.contains(other)) {
                return other;
            }
        }
        return -1;
    }

    int distance(int a, int b) {
        if (!has(a) || !has(b)) {
            return -1;
        }
        String[] one = threeOf(maximised(forms.get(a)));
        String[] other = threeOf(maximised(forms.get(b)));
        int sum = (one[0].equals(other[0]) ? 0 : 80) + (one[1].equals(other[1]) ? 0 : 40);
        if (one[2].equals(other[2])) {
            return sum;
        }
        return sum + (one[2].isEmpty() || other[2].isEmpty() ? 2 : 5);
    }

    int best(int t) {
        int nearest = -1;
        for (int far = 49; has(t) && far >= 0; far--) {
            for (int i = supported.size() - 1; i >= 0; i--) {
                if (distance(supported.get(i), t) == far) {
                    nearest = supported.get(i);
                }
            }
        }
        return nearest;
    }

    boolean put(int t, int key, int v) {
        if (!has(t) || key < 0 || key > 7) {
            return false;
        }
        values.put(forms.get(t) + "=" + key, v);
        return true;
    }

    int get(int t, int key) {
        found = 0;
        if (!has(t) || key < 0 || key > 7) {
            return 0;
        }
        List<String> through = new ArrayList<>();
        String form = forms.get(t);
        while (!form.isEmpty() && through.size() < 12) {
            through.add(form);
            form = parents.containsKey(form) ? parents.get(form) : truncated(form);
        }
        for (int i = 0; i < through.size(); i++) {
            Integer value = values.get(through.get(i) + "=" + key);
            if (value != null) {
                found = i + 1;
                return value;
            }
        }
        return 0;
    }

    int found() {
        return found;
    }

    private boolean has(int t) {
        return t >= 0 && t < forms.size();
    }

    private static String[] cut(String text) {
        return text.toLowerCase().split("[-_]", -1);
    }

    private static boolean isTag(String text) {
        String[] subtags = cut(text);
        if (!TAG.matcher(String.join("-", subtags)).matches()) {
            return false;
        }
        Set<String> seen = new HashSet<>();
        boolean extension = false;
        for (int i = 1; i < subtags.length && !subtags[i].equals("x"); i++) {
            extension |= subtags[i].equals("u");
            boolean once = extension ? subtags[i].length() == 2 : subtags[i].length() >= 4;
            if (once && !seen.add(subtags[i])) {
                return false;
            }
        }
        return true;
    }

    /** A start of a tag is a tag, or one when a key or a private subtag follows. */
    private static int wrongPlace(String text) {
        for (int end = 0; end <= text.length(); end++) {
            if (end == text.length() || text.charAt(end) == '-' || text.charAt(end) == '_') {
                String start = text.substring(0, end);
                if (!isTag(start) && !isTag(start + "-aa")) {
                    return Math.max(start.lastIndexOf('-'), start.lastIndexOf('_')) + 1;
                }
            }
        }
        return text.length();
    }

    private static String replaced(String subtag, Map<String, String> aliases) {
        return aliases.containsKey(subtag) ? replaced(aliases.get(subtag), aliases) : subtag;
    }

    private String form(String text) {
        String all = String.join("-", cut(text));
        int x = (all + "-").indexOf("-x-");
        String own = x < 0 ? "" : all.substring(x);
        all = x < 0 ? all : all.substring(0, x);
        int u = all.indexOf("-u-");
        String extension = u < 0 ? "" : "-u" + keywords(all.substring(u + 2));
        all = u < 0 ? all : all.substring(0, u);
        StringBuilder form = new StringBuilder();
        Set<String> variants = new TreeSet<>();
        for (String subtag : all.split("-")) {
            if (form.length() == 0) {
                form.append(replaced(subtag, languageAliases));
            } else if (subtag.matches("[a-z]{4}")) {
                form.append('-').append(subtag.substring(0, 1).toUpperCase());
                form.append(subtag.substring(1));
            } else if (subtag.length() < 4) {
                form.append('-').append(replaced(subtag, regionAliases).toUpperCase());
            } else {
                variants.add(subtag);
            }
        }
        for (String variant : variants) {
            form.append('-').append(variant);
        }
        return form + extension + own;
    }

    private static String keywords(String text) {
        Map<String, String> byKey = new TreeMap<>();
        String key = "";
        for (String subtag : text.substring(1).split("-")) {
            key = subtag.length() == 2 ? subtag : key;
            byKey.merge(key, subtag.length() == 2 ? "" : "-" + subtag, String::concat);
        }
        StringBuilder all = new StringBuilder();
        for (Map.Entry<String, String> word : byKey.entrySet()) {
            all.append('-').append(word.getKey());
            all.append(word.getValue().equals("-true") ? "" : word.getValue());
        }
        return all.toString();
    }

    private static String[] threeOf(String form) {
        String[] three = {"", "", ""};
        String[] subtags = form.split("-");
        three[0] = subtags[0];
        for (int i = 1; i < subtags.length && i < 3; i++) {
            if (subtags[i].matches("[A-Z][a-z]{3}")) {
                three[1] = subtags[i];
            } else if (three[2].isEmpty() && subtags[i].matches("[A-Z]{2}|[0-9]{3}")) {
                three[2] = subtags[i];
            } else {
                break;
            }
        }
        return three;
    }

    private static String joined(String... three) {
        return String.join("-", Arrays.stream(three).filter(s -> !s.isEmpty())
                .toArray(String[]::new));
    }

    private static String shortForm(String form) {
        return joined(threeOf(form));
    }

    private String maximised(String form) {
        String[] own = threeOf(form);
        boolean script = !own[1].isEmpty();
        boolean region = !own[2].isEmpty();
        if (script && region && !own[0].equals("und")) {
            return joined(own);
        }
        List<String> tries = new ArrayList<>();
        if (script && region) {
            tries.add(joined(own));
        }
        if (region) {
            tries.add(own[0] + "-" + own[2]);
        }
        if (script) {
            tries.add(own[0] + "-" + own[1]);
        }
        tries.add(own[0]);
        if (script) {
            tries.add("und-" + own[1]);
        }
        for (String from : tries) {
            if (likely.containsKey(from)) {
                String[] to = threeOf(likely.get(from));
                return joined(own[0].equals("und") ? to[0] : own[0],
                        script ? own[1] : to[1], region ? own[2] : to[2]);
            }
        }
        return joined(own);
    }

    private String minimised(String form) {
        String whole = maximised(form);
        String[] three = threeOf(whole);
        String[] tries = {three[0], joined(three[0], three[2]), joined(three[0], three[1])};
        for (String shorter : tries) {
            if (maximised(shorter).equals(whole)) {
                return shorter;
            }
        }
        return whole;
    }

    private static String truncated(String form) {
        int last = form.lastIndexOf('-');
        String left = last < 0 ? "" : form.substring(0, last);
        return left.matches(".*-.") ? left.substring(0, left.length() - 2) : left;
    }
}
