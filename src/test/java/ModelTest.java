import java.util.ArrayList;
import java.util.List;
import java.util.Random;
import java.util.TreeSet;

/** Runs of calls by a fixed seed, answered by the class and by a second reading of the document. */
public final class ModelTest {
    private static final Check CHECK = new Check();
    private static final int RUNS = 3000;
    private static final int CALLS = 200;
    private static final String[] NAMES = {"say", "wipe", "fault", "read", "rule", "cut", "line", "page", "mark",
        "headed", "chapter", "changed", "worst", "fit", "image", "restore", "count"};

    public static void main(String[] args) {
        Random random = new Random(20261118);
        for (int run = 0; run < RUNS; run++) {
            runOfCalls(random, run);
        }
        CHECK.end();
    }

    private static void runOfCalls(Random random, int run) {
        HeadMarks x = new HeadMarks();
        Model y = new Model();
        StringBuilder told = new StringBuilder("run " + run + ":");
        for (int n = 0; n < CALLS; n++) {
            if (n % 50 == 0) {
                String text = text(random);
                told.append(" wipe, text ").append(text);
                CHECK.due(told + " wipe", x.wipe(), y.wipe());
                for (char sign : text.toCharArray()) {
                    CHECK.due(told + " say", x.say(sign), y.say(sign));
                }
                CHECK.due(told + " read", x.read(), y.read());
            }
            String name = NAMES[random.nextInt(NAMES.length)];
            int a = argument(random, name);
            int b = random.nextInt(8) == 0 ? argument(random, "") : random.nextInt(name.equals("rule") ? 11 : 7) - 1;
            int c = random.nextInt(5) - 1;
            told.append(' ').append(name).append('(').append(a).append(',').append(b).append(',').append(c).append(')');
            CHECK.due(told.toString(), ask(x, name, a, b, c), y.ask(name, a, b, c));
        }
    }

    private static String text(Random random) {
        StringBuilder text = new StringBuilder();
        int signs = random.nextInt(62);
        int plain = random.nextInt(9);
        int letters = 1 + random.nextInt(8);
        for (int i = 0; i < signs; i++) {
            int kind = random.nextInt(12);
            if (kind == 0 && i > 0 && text.charAt(i - 1) != '/') {
                text.append('/');
            } else if (kind <= plain) {
                text.append('.');
            } else {
                text.append((char) ((random.nextBoolean() ? 'A' : 'a') + random.nextInt(letters)));
            }
        }
        return text.toString();
    }

    private static int argument(Random random, String name) {
        if (random.nextInt(40) == 0) {
            int[] odd = {Integer.MIN_VALUE, Integer.MAX_VALUE, -1, -2, -6, 60, 61, 119, 120, 127, 1 << 16};
            return odd[random.nextInt(odd.length)];
        }
        switch (name) {
            case "say": return random.nextInt(3) == 0 ? 30 + random.nextInt(100) : "./Aa".charAt(random.nextInt(4));
            case "headed": return (random.nextBoolean() ? '@' : '`') + random.nextInt(10);
            case "rule": return random.nextInt(10);
            case "chapter": return random.nextInt(random.nextInt(4) == 0 ? 62 : 12) - 1;
            case "fit": return random.nextInt(random.nextInt(4) == 0 ? 102 : 30) - 1;
            case "image", "restore", "worst": return random.nextInt(4) - 1;
            case "count": return random.nextInt(21) - 1;
            case "page", "mark": return random.nextInt(random.nextInt(4) == 0 ? 121 : 20);
            default: return random.nextInt(62) - 1;
        }
    }

    private static int ask(HeadMarks x, String name, int a, int b, int c) {
        switch (name) {
            case "say": return x.say(a);
            case "wipe": return x.wipe();
            case "fault": return x.fault();
            case "read": return x.read();
            case "rule": return x.rule(a, b);
            case "cut": return x.cut(a, b);
            case "line": return x.line(a, b);
            case "page": return x.page(a, b);
            case "mark": return x.mark(a, b, c);
            case "headed": return x.headed(a, b);
            case "chapter": return x.chapter(a, b);
            case "changed": return x.changed(a);
            case "worst": return x.worst(a);
            case "fit": return x.fit(a);
            case "image": return x.image(a);
            case "restore": return x.restore(a);
            default: return x.count(a);
        }
    }

    /** What IMAGES keep. */
    private record Kept(String lines, TreeSet<Integer> breaks, int[] rules) {
        Kept copy() {
            return new Kept(lines, new TreeSet<>(breaks), rules.clone());
        }
    }

    /** Each answer is worked out anew from the text, by the words of the document. */
    private static final class Model {
        private static final int NONE = -6;
        private String pad = "";
        private Kept now = new Kept("", new TreeSet<>(), new int[] {5, 0, 1, 1, 0, 0, 1, 1, 2});
        private final Kept[] images = new Kept[2];

        int say(int sign) {
            if (sign < 33 || sign > 126) {
                return -2;
            }
            if (pad.length() == 60) {
                return -4;
            }
            pad += (char) sign;
            return pad.length();
        }

        int fault() {
            for (int n = 1; n <= pad.length(); n++) {
                if (!pad.substring(0, n).matches("([.A-Ha-h]/?)*")) {
                    return n - 1;
                }
            }
            return pad.endsWith("/") ? pad.length() : NONE;
        }

        int read() {
            if (fault() != NONE) {
                return -7;
            }
            TreeSet<Integer> breaks = new TreeSet<>();
            String lines = "";
            for (String piece : pad.split("/")) {
                lines += piece;
                breaks.add(lines.length());
            }
            breaks.remove(lines.length());
            now = new Kept(lines, breaks, now.rules);
            pad = "";
            return lines.length();
        }

        static boolean chapterTitle(char c) {
            return c >= 'A' && c <= 'H';
        }

        static boolean sectionTitle(char c) {
            return c >= 'a' && c <= 'h';
        }

        /** Pages of line numbers; page 1 is at 0, a blank one is empty. */
        static List<List<Integer>> pagesOf(Kept t) {
            List<List<Integer>> pages = new ArrayList<>();
            for (int k = 0; k < t.lines.length(); k++) {
                char c = t.lines.charAt(k);
                boolean fresh = pages.isEmpty();
                if (!fresh) {
                    int has = pages.get(pages.size() - 1).size();
                    boolean title = c != '.';
                    fresh = has == t.rules[0] || t.breaks.contains(k)
                        || chapterTitle(c) && t.rules[1] >= 1
                        || title && t.rules[0] - (has + 1) < t.rules[2];
                }
                if (fresh) {
                    if (chapterTitle(c) && t.rules[1] == 2 && pages.size() % 2 == 1) {
                        pages.add(new ArrayList<>());
                    }
                    pages.add(new ArrayList<>());
                }
                pages.get(pages.size() - 1).add(k);
            }
            return pages;
        }

        /** In force behind the first so many lines: looked for backwards. */
        static int force(Kept t, int cls, int soMany) {
            for (int k = soMany - 1; k >= 0; k--) {
                char c = t.lines.charAt(k);
                if (cls == 0 ? chapterTitle(c) : sectionTitle(c)) {
                    return c;
                }
                if (cls == 1 && chapterTitle(c) && t.rules[3] == 1) {
                    return NONE;
                }
            }
            return NONE;
        }

        static int markOf(Kept t, int page, int cls, int how) {
            List<List<Integer>> pages = pagesOf(t);
            int ahead = 0;
            for (int p = 1; p < page; p++) {
                ahead += pages.get(p - 1).size();
            }
            List<Integer> own = pages.get(page - 1);
            if (how == 2) {
                return force(t, cls, ahead + own.size());
            }
            if (how == 1) {
                for (int k : own) {
                    char c = t.lines.charAt(k);
                    if (cls == 0 ? chapterTitle(c) : sectionTitle(c)) {
                        return c;
                    }
                }
            }
            return force(t, cls, ahead);
        }

        static int headOf(Kept t, int page) {
            List<List<Integer>> pages = pagesOf(t);
            if (page > pages.size() || pages.get(page - 1).isEmpty()) {
                return NONE;
            }
            if (t.rules[4] == 1 && chapterTitle(t.lines.charAt(pages.get(page - 1).get(0)))) {
                return NONE;
            }
            int side = page % 2;
            return markOf(t, page, t.rules[5 + side], t.rules[7 + side]);
        }

        int chapterNumber(int k) {
            return (int) now.lines.substring(0, k + 1).chars().filter(c -> chapterTitle((char) c)).count() - 1;
        }

        int shared(int page) {
            TreeSet<Integer> chapters = new TreeSet<>();
            for (int k : pagesOf(now).get(page - 1)) {
                chapters.add(chapterNumber(k));
            }
            chapters.remove(-1);
            return chapters.size() >= 2 ? 1 : 0;
        }

        int pageOf(int line) {
            List<List<Integer>> pages = pagesOf(now);
            for (int p = 1; p <= pages.size(); p++) {
                if (pages.get(p - 1).contains(line)) {
                    return p;
                }
            }
            return NONE;
        }

        int rule(int what, int v) {
            if (what < 0 || what > 8) {
                return -2;
            }
            int least = what == 0 ? 2 : 0;
            int most = what == 0 ? 9 : what >= 3 && what <= 6 ? 1 : 2;
            if (v < least || v > most || what == 0 && v <= now.rules[2] || what == 2 && v >= now.rules[0]) {
                return -2;
            }
            int was = now.rules[what];
            now.rules[what] = v;
            return was;
        }

        int cut(int line, int is) {
            if (line < 1 || line >= now.lines.length()) {
                return -1;
            }
            if (is == 1) {
                now.breaks.add(line);
            } else if (is == 0) {
                now.breaks.remove(line);
            } else {
                return -2;
            }
            return now.breaks.size();
        }

        int line(int line, int what) {
            if (line < 0 || line >= now.lines.length()) {
                return -1;
            }
            char c = now.lines.charAt(line);
            switch (what) {
                case 0: return c == '.' ? NONE : c;
                case 1: return pageOf(line);
                case 2: return pagesOf(now).get(pageOf(line) - 1).indexOf(line);
                case 3: return now.breaks.contains(line) ? 1 : 0;
                case 4: return force(now, 0, line + 1);
                case 5: return force(now, 1, line + 1);
                default: return -2;
            }
        }

        int page(int page, int what) {
            List<List<Integer>> pages = pagesOf(now);
            if (page < 1 || page > pages.size()) {
                return -1;
            }
            List<Integer> own = pages.get(page - 1);
            switch (what) {
                case 0: return own.size();
                case 1: return own.isEmpty() ? NONE : own.get(0);
                case 2: return headOf(now, page);
                case 3: return shared(page);
                default: return -2;
            }
        }

        int mark(int page, int cls, int how) {
            if (page < 1 || page > pagesOf(now).size()) {
                return -1;
            }
            return cls < 0 || cls > 1 || how < 0 || how > 2 ? -2 : markOf(now, page, cls, how);
        }

        int headed(int letter, int i) {
            if (letter < 0 || letter > 127 || "ABCDEFGHabcdefgh".indexOf(letter) < 0) {
                return -2;
            }
            List<Integer> found = new ArrayList<>();
            for (int p = 1; p <= pagesOf(now).size(); p++) {
                if (headOf(now, p) == letter) {
                    found.add(p);
                }
            }
            return i == -1 ? found.size() : i < 0 || i >= found.size() ? NONE : found.get(i);
        }

        int chapter(int k, int what) {
            if (what < 0 || what > 4) {
                return -2;
            }
            List<Integer> own = new ArrayList<>();
            for (int line = 0; line < now.lines.length(); line++) {
                if (k >= 0 && chapterNumber(line) == k) {
                    own.add(line);
                }
            }
            if (own.isEmpty()) {
                return NONE;
            }
            switch (what) {
                case 0: return now.lines.charAt(own.get(0));
                case 1: return pageOf(own.get(0));
                case 2: return pageOf(own.get(own.size() - 1));
                case 3: return own.size();
                default: return (int) own.stream().filter(line -> sectionTitle(now.lines.charAt(line))).count();
            }
        }

        int changed(int line) {
            if (line < 1 || line >= now.lines.length()) {
                return -1;
            }
            Kept then = now.copy();
            if (!then.breaks.remove(line)) {
                then.breaks.add(line);
            }
            int pages = 0;
            int most = Math.max(pagesOf(now).size(), pagesOf(then).size());
            for (int p = 1; p <= most; p++) {
                pages += headOf(now, p) == headOf(then, p) ? 0 : 1;
            }
            return pages;
        }

        int worst(int what) {
            if (what < 0 || what > 1) {
                return -2;
            }
            int line = NONE;
            int most = 0;
            for (int k = now.lines.length() - 1; k >= 1; k--) {
                int pages = changed(k);
                if (pages >= most) {
                    line = k;
                    most = pages;
                }
            }
            return what == 0 ? line : most;
        }

        int fit(int n) {
            if (n < 0 || n > 99) {
                return -2;
            }
            for (int high = 2; high <= 9; high++) {
                Kept then = now.copy();
                then.rules[0] = high;
                if (high > then.rules[2] && pagesOf(then).size() <= n) {
                    return high;
                }
            }
            return NONE;
        }

        int count(int what) {
            int pages = pagesOf(now).size();
            int n = 0;
            switch (what) {
                case 0: return now.lines.length();
                case 1: return pages;
                case 2: return (int) pagesOf(now).stream().filter(List::isEmpty).count();
                case 3: return now.breaks.size();
                case 4: return (int) now.lines.chars().filter(c -> chapterTitle((char) c)).count();
                case 5:
                    for (int p = 1; p <= pages; p++) {
                        n += shared(p);
                    }
                    return n;
                case 6:
                    for (int p = 1; p <= pages; p++) {
                        n += headOf(now, p) == NONE ? 0 : 1;
                    }
                    return n;
                case 7: return pad.length();
                case 8: return (images[0] == null ? 0 : 1) + (images[1] == null ? 0 : 2);
                default: return what >= 10 && what <= 18 ? now.rules[what - 10] : -2;
            }
        }

        int restore(int k) {
            if (k != 0 && k != 1) {
                return -2;
            }
            if (images[k] == null) {
                return -3;
            }
            now = images[k].copy();
            return 1;
        }

        int image(int k) {
            if (k != 0 && k != 1) {
                return -2;
            }
            images[k] = now.copy();
            return 1;
        }

        int wipe() {
            int had = pad.length();
            pad = "";
            return had;
        }

        int ask(String name, int a, int b, int c) {
            switch (name) {
                case "say": return say(a);
                case "wipe": return wipe();
                case "fault": return fault();
                case "read": return read();
                case "rule": return rule(a, b);
                case "cut": return cut(a, b);
                case "line": return line(a, b);
                case "page": return page(a, b);
                case "mark": return mark(a, b, c);
                case "headed": return headed(a, b);
                case "chapter": return chapter(a, b);
                case "changed": return changed(a);
                case "worst": return worst(a);
                case "fit": return fit(a);
                case "image": return image(a);
                case "restore": return restore(a);
                default: return count(a);
            }
        }
    }
}
