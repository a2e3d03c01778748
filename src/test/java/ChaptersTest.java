/** Promises 12 to 15: chapter, changed, worst, fit. */
public final class ChaptersTest {
    private static final Check CHECK = new Check();
    private static final int NONE = HeadMarks.NONE;

    public static void main(String[] args) {
        chapter();
        chapterRefused();
        changed();
        changedComparesLetters();
        changedRefused();
        worst();
        fit();
        fitAboveKeep();
        fitByBreaksAndOpen();
        CHECK.end();
    }

    /** All that chapter tells of one. */
    private static void chapterIs(HeadMarks x, int k, int... want) {
        for (int what = 0; what <= 4; what++) {
            CHECK.due("chapter(" + k + ", " + what + ")", x.chapter(k, what), want[what]);
        }
    }

    private static void chapter() {
        HeadMarks x = Check.reading("a.A.bc......dBA.a");
        CHECK.due("chapters", x.count(4), 3);
        chapterIs(x, 0, 'A', 1, 3, 11, 3);
        chapterIs(x, 1, 'B', 4, 4, 1, 0);
        chapterIs(x, 2, 'A', 4, 4, 3, 1);
        x.rule(1, 2);
        chapterIs(x, 0, 'A', 3, 5, 11, 3);
        chapterIs(x, 1, 'B', 7, 7, 1, 0);
        chapterIs(x, 2, 'A', 9, 9, 3, 1);
        HeadMarks one = Check.reading("C");
        chapterIs(one, 0, 'C', 1, 1, 1, 0);
    }

    private static void chapterRefused() {
        HeadMarks x = Check.reading(".A.B");
        int[] none = {-1, 2, 60, Integer.MIN_VALUE, Integer.MAX_VALUE};
        int[] outside = {-1, 5, Integer.MIN_VALUE, Integer.MAX_VALUE};
        for (int k : none) {
            for (int what = 0; what <= 4; what++) {
                CHECK.due("chapter(" + k + ", " + what + ")", x.chapter(k, what), NONE);
            }
        }
        for (int what : outside) {
            CHECK.due("chapter(0, " + what + ")", x.chapter(0, what), HeadMarks.OUTSIDE);
            CHECK.due("chapter(-1, " + what + ")", x.chapter(-1, what), HeadMarks.OUTSIDE);
        }
        CHECK.due("no chapters", Check.reading("..a").chapter(0, 0), NONE);
        CHECK.due("no lines", new HeadMarks().chapter(0, 0), NONE);
    }

    private static void changed() {
        // One page now, headed by its last section; by a break it has none and page 2 its chapter.
        HeadMarks x = Check.reading("A.a.");
        CHECK.due("changed(1)", x.changed(1), 2);
        CHECK.due("changed(2)", x.changed(2), 2);
        // Page 1 keeps its head, page 2 comes with one.
        CHECK.due("changed(3)", x.changed(3), 1);
        CHECK.due("changed adds no break", x.count(3), 0);
        CHECK.due("changed adds no page", x.count(1), 1);
        x.cut(3, 1);
        CHECK.due("changed by a break that goes", x.changed(3), 1);
        CHECK.due("changed takes no break", x.count(3), 1);
        // Nothing is in force on any page: as none.
        HeadMarks plain = Check.reading("......");
        for (int k = 1; k < 6; k++) {
            CHECK.due("plain: changed(" + k + ")", plain.changed(k), 0);
        }
        // A break where a page begins anyway.
        HeadMarks full = Check.reading("A.a..b");
        CHECK.due("changed at a full page", full.changed(5), 0);
        // A head that goes with a chapter's own page, by BARE.
        HeadMarks bare = Check.reading(".A");
        bare.rule(6, 0);
        CHECK.due("not bare", bare.changed(1), 2);
        bare.rule(4, 1);
        CHECK.due("bare", bare.changed(1), 1);
    }

    private static void changedComparesLetters() {
        HeadMarks x = Check.reading("A.A.");
        x.rule(6, 0);
        // Page 1 is headed by the first A then, by the second one now: no other head.
        CHECK.due("same letters", x.changed(2), 1);
    }

    private static void changedRefused() {
        HeadMarks x = Check.reading("A.a");
        int[] unknown = {0, -1, 3, 60, Integer.MIN_VALUE, Integer.MAX_VALUE};
        for (int k : unknown) {
            CHECK.due("changed(" + k + ")", x.changed(k), HeadMarks.UNKNOWN);
        }
        CHECK.due("one line", Check.reading("A").changed(1), HeadMarks.UNKNOWN);
        CHECK.due("one line, 0", Check.reading("A").changed(0), HeadMarks.UNKNOWN);
    }

    private static void worst() {
        HeadMarks x = Check.reading("A...aB..b.");
        int most = -1;
        int line = NONE;
        for (int k = 1; k < 10; k++) {
            if (x.changed(k) > most) {
                most = x.changed(k);
                line = k;
            }
        }
        CHECK.due("worst(0)", x.worst(0), line);
        CHECK.due("worst(1)", x.worst(1), most);
        // A break ahead of B changes nothing, as a chapter opens a page anyway.
        HeadMarks open = Check.reading("ABc");
        open.rule(1, 1);
        CHECK.due("open: changed(1)", open.changed(1), 0);
        CHECK.due("open: worst(0)", open.worst(0), 2);
        CHECK.due("open: worst(1)", open.worst(1), 1);
        HeadMarks several = Check.reading("..A");
        several.rule(6, 0);
        CHECK.due("several: changed(1)", several.changed(1), 2);
        CHECK.due("several: changed(2)", several.changed(2), 2);
        CHECK.due("several: the least", several.worst(0), 1);
        CHECK.due("several: how many", several.worst(1), 2);
        HeadMarks plain = Check.reading("...");
        CHECK.due("plain: worst(0)", plain.worst(0), 1);
        CHECK.due("plain: worst(1)", plain.worst(1), 0);
        HeadMarks one = Check.reading("A");
        CHECK.due("one line: worst(0)", one.worst(0), NONE);
        CHECK.due("one line: worst(1)", one.worst(1), 0);
        CHECK.due("no line: worst(0)", new HeadMarks().worst(0), NONE);
        CHECK.due("no line: worst(1)", new HeadMarks().worst(1), 0);
        int[] outside = {-1, 2, Integer.MIN_VALUE, Integer.MAX_VALUE};
        for (int what : outside) {
            CHECK.due("worst(" + what + ")", x.worst(what), HeadMarks.OUTSIDE);
            CHECK.due("one line: worst(" + what + ")", one.worst(what), HeadMarks.OUTSIDE);
        }
    }

    private static void fit() {
        HeadMarks x = Check.reading(".".repeat(18));
        CHECK.due("fit(99)", x.fit(99), 2);
        CHECK.due("fit(9)", x.fit(9), 2);
        CHECK.due("fit(8)", x.fit(8), 3);
        CHECK.due("fit(6)", x.fit(6), 3);
        CHECK.due("fit(5)", x.fit(5), 4);
        CHECK.due("fit(3)", x.fit(3), 6);
        CHECK.due("fit(2)", x.fit(2), 9);
        CHECK.due("fit(1)", x.fit(1), NONE);
        CHECK.due("fit(0)", x.fit(0), NONE);
        CHECK.due("fit changes no rule", x.count(10), 5);
        CHECK.due("fit changes no page", x.count(1), 4);
        int[] outside = {-1, 100, Integer.MIN_VALUE, Integer.MAX_VALUE};
        for (int n : outside) {
            CHECK.due("fit(" + n + ")", x.fit(n), HeadMarks.OUTSIDE);
        }
        HeadMarks most = Check.reading("A".repeat(60));
        most.rule(1, 2);
        CHECK.due("fit, 119 pages", most.fit(99), NONE);
    }

    private static void fitAboveKeep() {
        HeadMarks x = Check.reading("..");
        CHECK.due("keep 1: fit(1)", x.fit(1), 2);
        x.rule(2, 2);
        CHECK.due("keep 2: fit(1)", x.fit(1), 3);
        x.rule(2, 0);
        CHECK.due("keep 0: fit(1)", x.fit(1), 2);
        CHECK.due("keep 0: fit(99)", x.fit(99), 2);
        HeadMarks none = new HeadMarks();
        CHECK.due("no lines: fit(0)", none.fit(0), 2);
        none.rule(2, 2);
        CHECK.due("no lines, keep 2: fit(0)", none.fit(0), 3);
    }

    private static void fitByBreaksAndOpen() {
        // Breaks and the opening of chapters stay as they are told.
        HeadMarks x = Check.reading("./.A.");
        CHECK.due("fit(2)", x.fit(2), 3);
        x.rule(1, 1);
        CHECK.due("open 1: fit(2)", x.fit(2), NONE);
        CHECK.due("open 1: fit(3)", x.fit(3), 2);
        x.rule(1, 2);
        CHECK.due("open 2: fit(3)", x.fit(3), 2);
        CHECK.due("open 2: fit(2)", x.fit(2), NONE);
    }
}
