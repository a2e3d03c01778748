/** Promises 8 to 11: line, page, mark, headed. */
public final class PagesTest {
    private static final Check CHECK = new Check();
    private static final int NONE = HeadMarks.NONE;

    public static void main(String[] args) {
        lineOfEach();
        lineRefused();
        pagesByHigh();
        pagesByBreak();
        pagesByOpen();
        pagesByKeep();
        mostPages();
        pageRefused();
        shared();
        marks();
        marksByClear();
        markRefused();
        heads();
        headsBare();
        headed();
        CHECK.end();
    }

    /** What line tells of each line, in a row. */
    private static void lines(HeadMarks x, int what, int... want) {
        CHECK.due("lines", x.count(0), want.length);
        for (int k = 0; k < want.length; k++) {
            CHECK.due("line(" + k + ", " + what + ")", x.line(k, what), want[k]);
        }
    }

    /** What page tells of each page, in a row. */
    private static void pages(HeadMarks x, int what, int... want) {
        CHECK.due("pages", x.count(1), want.length);
        for (int p = 0; p < want.length; p++) {
            CHECK.due("page(" + (p + 1) + ", " + what + ")", x.page(p + 1, what), want[p]);
        }
    }

    /** What mark tells of each page, in a row. */
    private static void marks(HeadMarks x, int cls, int how, int... want) {
        CHECK.due("pages", x.count(1), want.length);
        for (int p = 0; p < want.length; p++) {
            CHECK.due("mark(" + (p + 1) + ", " + cls + ", " + how + ")", x.mark(p + 1, cls, how), want[p]);
        }
    }

    private static void lineOfEach() {
        HeadMarks x = Check.reading(".Aa./.Hh.");
        lines(x, 0, NONE, 'A', 'a', NONE, NONE, 'H', 'h', NONE);
        lines(x, 1, 1, 1, 1, 1, 2, 2, 2, 2);
        lines(x, 2, 0, 1, 2, 3, 0, 1, 2, 3);
        lines(x, 3, 0, 0, 0, 0, 1, 0, 0, 0);
        lines(x, 4, NONE, 'A', 'A', 'A', 'A', 'H', 'H', 'H');
        lines(x, 5, NONE, NONE, 'a', 'a', 'a', NONE, 'h', 'h');
        x.rule(3, 0);
        lines(x, 5, NONE, NONE, 'a', 'a', 'a', 'a', 'h', 'h');
    }

    private static void lineRefused() {
        HeadMarks x = Check.reading("A.");
        int[] unknown = {-1, 2, 60, Integer.MIN_VALUE, Integer.MAX_VALUE};
        for (int k : unknown) {
            CHECK.due("line(" + k + ", 0)", x.line(k, 0), HeadMarks.UNKNOWN);
            CHECK.due("line(" + k + ", 6)", x.line(k, 6), HeadMarks.UNKNOWN);
        }
        int[] outside = {-1, 6, Integer.MIN_VALUE, Integer.MAX_VALUE};
        for (int what : outside) {
            CHECK.due("line(0, " + what + ")", x.line(0, what), HeadMarks.OUTSIDE);
        }
    }

    private static void pagesByHigh() {
        HeadMarks x = Check.reading(".".repeat(11));
        pages(x, 0, 5, 5, 1);
        pages(x, 1, 0, 5, 10);
        x.rule(0, 9);
        pages(x, 0, 9, 2);
        x.rule(0, 2);
        pages(x, 0, 2, 2, 2, 2, 2, 1);
    }

    private static void pagesByBreak() {
        HeadMarks x = Check.reading("..../././.....");
        pages(x, 0, 4, 1, 1, 5);
        pages(x, 1, 0, 4, 5, 6);
        HeadMarks full = Check.reading("...../.");
        pages(full, 0, 5, 1);
    }

    private static void pagesByOpen() {
        HeadMarks x = Check.reading("A.B.a.C.");
        pages(x, 0, 4, 4);
        x.rule(1, 1);
        pages(x, 0, 2, 4, 2);
        pages(x, 1, 0, 2, 6);
        x.rule(1, 2);
        pages(x, 0, 2, 0, 4, 0, 2);
        pages(x, 1, 0, NONE, 2, NONE, 6);
        CHECK.due("line behind a blank page", x.line(2, 1), 3);
        CHECK.due("place behind a blank page", x.line(2, 2), 0);
        // By a break or a full page a chapter opens a right page, too; no blank one comes where it is right.
        HeadMarks y = Check.reading("...../A/a/B");
        y.rule(1, 2);
        pages(y, 0, 5, 0, 1, 1, 1);
        // Others than chapters open a left page as it comes.
        HeadMarks z = Check.reading("A/./a/.");
        z.rule(1, 2);
        pages(z, 0, 1, 1, 1, 1);
    }

    private static void pagesByKeep() {
        HeadMarks x = Check.reading("....a.");
        pages(x, 0, 4, 2);
        x.rule(2, 0);
        pages(x, 0, 5, 1);
        HeadMarks y = Check.reading("...A.");
        pages(y, 0, 5);
        y.rule(2, 2);
        pages(y, 0, 3, 2);
        HeadMarks z = Check.reading("..a..");
        z.rule(2, 2);
        pages(z, 0, 5);
        // Room counts, not what comes: a last title goes on as well.
        pages(Check.reading("....A"), 0, 4, 1);
        HeadMarks titles = Check.reading("aaa");
        titles.rule(0, 2);
        pages(titles, 0, 1, 1, 1);
    }

    private static void mostPages() {
        HeadMarks x = Check.reading("A".repeat(60));
        x.rule(1, 2);
        CHECK.due("most pages", x.count(1), 119);
        CHECK.due("most blank pages", x.count(2), 59);
        CHECK.due("last line's page", x.line(59, 1), 119);
        CHECK.due("last page's lines", x.page(119, 0), 1);
        CHECK.due("no page 120", x.page(120, 0), HeadMarks.UNKNOWN);
        CHECK.due("worst of them", x.worst(1), 0);
        CHECK.due("the least worst of them", x.worst(0), 1);
    }

    private static void pageRefused() {
        HeadMarks x = Check.reading("A.....");
        int[] unknown = {0, -1, 3, 120, Integer.MIN_VALUE, Integer.MAX_VALUE};
        for (int p : unknown) {
            CHECK.due("page(" + p + ", 0)", x.page(p, 0), HeadMarks.UNKNOWN);
            CHECK.due("page(" + p + ", 4)", x.page(p, 4), HeadMarks.UNKNOWN);
        }
        int[] outside = {-1, 4, Integer.MIN_VALUE, Integer.MAX_VALUE};
        for (int what : outside) {
            CHECK.due("page(2, " + what + ")", x.page(2, what), HeadMarks.OUTSIDE);
        }
        CHECK.due("no lines, no pages", new HeadMarks().page(1, 0), HeadMarks.UNKNOWN);
    }

    private static void shared() {
        pages(Check.reading(".A..."), 3, 0);
        pages(Check.reading(".A.B."), 3, 1);
        pages(Check.reading("A..../.A../a"), 3, 0, 1, 0);
        pages(Check.reading("A/B.C/..D/..E"), 3, 0, 1, 1, 1);
        HeadMarks blank = Check.reading("AB");
        blank.rule(1, 2);
        pages(blank, 3, 0, 0, 0);
    }

    private static void marks() {
        HeadMarks x = Check.reading(".../.Aa.b/..c/dB/e/.");
        x.rule(0, 9);
        marks(x, 0, 0, NONE, NONE, 'A', 'A', 'B', 'B');
        marks(x, 0, 1, NONE, 'A', 'A', 'B', 'B', 'B');
        marks(x, 0, 2, NONE, 'A', 'A', 'B', 'B', 'B');
        marks(x, 1, 0, NONE, NONE, 'b', 'c', NONE, 'e');
        marks(x, 1, 1, NONE, 'a', 'c', 'd', 'e', 'e');
        marks(x, 1, 2, NONE, 'b', 'c', NONE, 'e', 'e');
        HeadMarks blank = Check.reading("AaBC");
        blank.rule(1, 2);
        for (int how = 0; how <= 2; how++) {
            CHECK.due("blank, chapter, " + how, blank.mark(2, 0, how), 'A');
            CHECK.due("blank, section, " + how, blank.mark(2, 1, how), 'a');
            CHECK.due("blank, ended section, " + how, blank.mark(4, 1, how), NONE);
        }
    }

    private static void marksByClear() {
        HeadMarks x = Check.reading("a/.B./.");
        marks(x, 1, 0, NONE, 'a', NONE);
        // FIRST without a mark of the page's own is TOP, though it ends on this very page.
        marks(x, 1, 1, 'a', 'a', NONE);
        marks(x, 1, 2, 'a', NONE, NONE);
        x.rule(3, 0);
        marks(x, 1, 0, NONE, 'a', 'a');
        marks(x, 1, 1, 'a', 'a', 'a');
        marks(x, 1, 2, 'a', 'a', 'a');
    }

    private static void markRefused() {
        HeadMarks x = Check.reading("Aa");
        int[] unknown = {0, -1, 2, Integer.MIN_VALUE, Integer.MAX_VALUE};
        for (int p : unknown) {
            CHECK.due("mark(" + p + ", 0, 0)", x.mark(p, 0, 0), HeadMarks.UNKNOWN);
            CHECK.due("mark(" + p + ", 2, 3)", x.mark(p, 2, 3), HeadMarks.UNKNOWN);
        }
        int[] outside = {-1, 3, Integer.MIN_VALUE, Integer.MAX_VALUE};
        for (int v : outside) {
            CHECK.due("mark(1, " + v + ", 0)", x.mark(1, v, 0), HeadMarks.OUTSIDE);
            CHECK.due("mark(1, 0, " + v + ")", x.mark(1, 0, v), HeadMarks.OUTSIDE);
        }
        CHECK.due("mark(1, 2, 0)", x.mark(1, 2, 0), HeadMarks.OUTSIDE);
    }

    private static void heads() {
        // Pages: 1 "Aab", 2 "cBd", 3 "eCf", 4 "gDh".
        HeadMarks x = Check.reading("Aab/cBd/eCf/gDh");
        pages(x, 2, 'b', 'B', 'f', 'D');
        int[][] left = {{'A', 'B', 'B'}, {'b', 'c', 'd'}};
        int[][] leftSecond = {{'C', 'D', 'D'}, {'f', 'g', 'h'}};
        int[][] right = {{NONE, 'A', 'A'}, {NONE, 'a', 'b'}};
        int[][] rightSecond = {{'B', 'C', 'C'}, {'d', 'e', 'f'}};
        for (int cls = 0; cls <= 1; cls++) {
            for (int how = 0; how <= 2; how++) {
                x.rule(5, cls);
                x.rule(6, 1 - cls);
                x.rule(7, how);
                x.rule(8, 2 - how);
                pages(x, 2, right[1 - cls][2 - how], left[cls][how],
                    rightSecond[1 - cls][2 - how], leftSecond[cls][how]);
            }
        }
    }

    private static void headsBare() {
        HeadMarks x = Check.reading("Aa/B./.C/a");
        x.rule(6, 0);
        pages(x, 2, 'A', 'B', 'C', 'C');
        CHECK.due("heads", x.count(6), 4);
        x.rule(4, 1);
        pages(x, 2, NONE, NONE, 'C', 'C');
        CHECK.due("heads, bare", x.count(6), 2);
        HeadMarks blank = Check.reading("AB");
        blank.rule(1, 2);
        blank.rule(6, 0);
        pages(blank, 2, 'A', NONE, 'B');
    }

    private static void headed() {
        HeadMarks x = Check.reading("A/./B/./A/./h");
        x.rule(6, 0);
        CHECK.due("headed(A, -1)", x.headed('A', -1), 5);
        CHECK.due("headed(A, 0)", x.headed('A', 0), 1);
        CHECK.due("headed(A, 1)", x.headed('A', 1), 2);
        CHECK.due("headed(A, 2)", x.headed('A', 2), 5);
        CHECK.due("headed(A, 4)", x.headed('A', 4), 7);
        CHECK.due("headed(A, 5)", x.headed('A', 5), NONE);
        CHECK.due("headed(A, -2)", x.headed('A', -2), NONE);
        CHECK.due("headed(A, least)", x.headed('A', Integer.MIN_VALUE), NONE);
        CHECK.due("headed(A, most)", x.headed('A', Integer.MAX_VALUE), NONE);
        CHECK.due("headed(h, -1)", x.headed('h', -1), 0);
        CHECK.due("headed(H, 0)", x.headed('H', 0), NONE);
        x.rule(6, 1);
        CHECK.due("headed(h, 0)", x.headed('h', 0), 7);
        int[] outside = {'@', 'I', '`', 'i', '.', '/', -6, 0, 256 + 'A', Integer.MIN_VALUE, Integer.MAX_VALUE};
        for (int letter : outside) {
            CHECK.due("headed(" + letter + ", -1)", x.headed(letter, -1), HeadMarks.OUTSIDE);
            CHECK.due("headed(" + letter + ", -2)", x.headed(letter, -2), HeadMarks.OUTSIDE);
        }
        for (int i = 0; i < 8; i++) {
            CHECK.due("letter of a title", x.headed('A' + i, 99), NONE);
            CHECK.due("letter of a title", x.headed('a' + i, 99), NONE);
        }
    }
}
