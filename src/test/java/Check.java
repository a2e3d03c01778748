/** Counts answers that are due, tells the others, and ends a test with its exit code. */
final class Check {
    private int passed = 0;
    private int failed = 0;
    private String sentence = "";
    private int atSentence = 0;

    /** The sentence of the document that the checks behind this call are for. */
    void sentence(String words) {
        endSentence();
        sentence = words;
        atSentence = passed + failed;
    }

    private void endSentence() {
        if (!sentence.isEmpty() && passed + failed == atSentence) {
            failed++;
            System.out.println("[" + sentence + "] has no check");
        }
    }

    private void tell(String call, String got, String want) {
        failed++;
        String about = sentence.isEmpty() ? "" : "[" + sentence + "] ";
        System.out.println(about + call + " answered " + got + ", due is " + want);
    }

    void due(String call, int got, int want) {
        if (got == want) {
            passed++;
        } else {
            tell(call, "" + got, "" + want);
        }
    }

    void same(String call, String got, String want) {
        if (got.equals(want)) {
            passed++;
        } else {
            tell(call, got, want);
        }
    }

    void holds(String what, boolean is) {
        due(what, is ? 1 : 0, 1);
    }

    void end() {
        endSentence();
        System.out.println(passed + " passed, " + failed + " failed");
        if (failed != 0 || passed == 0) {
            System.exit(1);
        }
    }

    static void sayAll(HeadMarks x, String signs) {
        for (int i = 0; i < signs.length(); i++) {
            x.say(signs.charAt(i));
        }
    }

    /** A new object whose text is this one; behind it, rules with their numbers: what, v, what, v .. */
    static HeadMarks reading(String text, int... rules) {
        HeadMarks x = new HeadMarks();
        sayAll(x, text);
        int lines = text.replace("/", "").length();
        if (x.read() != lines) {
            throw new IllegalStateException("not read: " + text);
        }
        for (int i = 0; i < rules.length; i += 2) {
            if (x.rule(rules[i], rules[i + 1]) < 0) {
                throw new IllegalStateException("not ruled: " + rules[i] + ", " + rules[i + 1]);
            }
        }
        return x;
    }

    /** All that count tells, of what is not free: to see that a refused call changed nothing. */
    static String stateOf(HeadMarks x) {
        StringBuilder all = new StringBuilder();
        for (int what = 0; what <= 18; what++) {
            all.append(x.count(what)).append(' ');
        }
        for (int k = 0, lines = x.count(0); k < lines; k++) {
            for (int what = 0; what <= 5; what++) {
                all.append(x.line(k, what)).append(' ');
            }
        }
        return all.append(x.fault()).toString();
    }

    /** The signs of the lines, page by page, with | between pages: a blank page is nothing between two of them. */
    static String pagesOf(HeadMarks x) {
        StringBuilder all = new StringBuilder();
        for (int page = 1, pages = x.count(1); page <= pages; page++) {
            all.append(page == 1 ? "" : "|");
            int first = x.page(page, 1);
            int lines = x.page(page, 0);
            for (int k = first; k < first + lines; k++) {
                int title = x.line(k, 0);
                all.append(title == HeadMarks.NONE ? '.' : (char) title);
            }
        }
        return all.toString();
    }

    private static char letter(int answer) {
        return answer == HeadMarks.NONE ? '-' : answer < 0 ? '!' : (char) answer;
    }

    /** The head of each page, - for none. */
    static String headsOf(HeadMarks x) {
        StringBuilder all = new StringBuilder();
        for (int page = 1, pages = x.count(1); page <= pages; page++) {
            all.append(letter(x.page(page, 2)));
        }
        return all.toString();
    }

    /** Top, first or last of each page, - for none. */
    static String marksOf(HeadMarks x, int cls, int how) {
        StringBuilder all = new StringBuilder();
        for (int page = 1, pages = x.count(1); page <= pages; page++) {
            all.append(letter(x.mark(page, cls, how)));
        }
        return all.toString();
    }

    /** What line tells of each line: titles and what is in force as letters, all else as digits. */
    static String linesOf(HeadMarks x, int what) {
        boolean letters = what == 0 || what >= 4;
        StringBuilder all = new StringBuilder();
        for (int k = 0, lines = x.count(0); k < lines; k++) {
            int answer = x.line(k, what);
            all.append(letters ? "" + letter(answer) : "" + answer);
        }
        return all.toString();
    }

    /** Whether each page is shared: 1, 0. */
    static String sharedOf(HeadMarks x) {
        StringBuilder all = new StringBuilder();
        for (int page = 1, pages = x.count(1); page <= pages; page++) {
            all.append(x.page(page, 3));
        }
        return all.toString();
    }
}
