/** Counts answers that are due, tells the others, and ends a test with its exit code. */
final class Check {
    private int passed = 0;
    private int failed = 0;

    void due(String call, int got, int want) {
        if (got == want) {
            passed++;
        } else {
            failed++;
            System.out.println(call + " answered " + got + ", due is " + want);
        }
    }

    void holds(String what, boolean is) {
        due(what, is ? 1 : 0, 1);
    }

    void end() {
        System.out.println(passed + " passed, " + failed + " failed");
        if (failed != 0 || passed == 0) {
            System.exit(1);
        }
    }

    static void sayAll(HeadMarks x, String signs) {
        for (int i = 0; i < signs.length(); i++) {
            x.say(signs.charAt(i));
        }
    }

    /** A new object whose text is this one. */
    static HeadMarks reading(String text) {
        HeadMarks x = new HeadMarks();
        sayAll(x, text);
        int lines = text.replace("/", "").length();
        if (x.read() != lines) {
            throw new IllegalStateException("not read: " + text);
        }
        return x;
    }

    /** All that count tells, of what is not free: to see that a refused call changed nothing. */
    static String stateOf(HeadMarks x) {
        StringBuilder all = new StringBuilder();
        for (int what = 0; what <= 18; what++) {
            all.append(x.count(what)).append(' ');
        }
        for (int k = 0; k < x.count(0); k++) {
            for (int what = 0; what <= 5; what++) {
                all.append(x.line(k, what)).append(' ');
            }
        }
        return all.append(x.fault()).toString();
    }
}
