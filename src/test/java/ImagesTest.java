/** Promises 16 to 18: image, restore, count. */
public final class ImagesTest {
    private static final Check CHECK = new Check();

    public static void main(String[] args) {
        imageAndRestore();
        imageInPlace();
        imagesAreApart();
        refused();
        count();
        countRefused();
        CHECK.end();
    }

    private static void imageAndRestore() {
        HeadMarks x = Check.reading("Aa./.B");
        int[] rules = {4, 2, 2, 0, 1, 1, 0, 2, 0};
        for (int r = 0; r < rules.length; r++) {
            x.rule(r, rules[r]);
        }
        x.cut(2, 1);
        CHECK.due("image(1)", x.image(1), 1);
        CHECK.due("kept: 1", x.count(8), 2);
        String kept = Check.stateOf(x);
        int[] others = {9, 0, 1, 1, 0, 0, 1, 1, 2};
        for (int r = 0; r < others.length; r++) {
            x.rule(r, others[r]);
        }
        x.cut(2, 0);
        Check.sayAll(x, "........");
        x.read();
        CHECK.due("another text", x.count(0), 8);
        CHECK.due("restore(1)", x.restore(1), 1);
        CHECK.holds("all is as it was", kept.equals(Check.stateOf(x)));
        x.cut(1, 1);
        x.rule(0, 5);
        CHECK.due("restore(1), the image stays", x.restore(1), 1);
        CHECK.holds("all is as it was, again", kept.equals(Check.stateOf(x)));
        Check.sayAll(x, "..");
        CHECK.due("restore(1) with signs", x.restore(1), 1);
        CHECK.due("the pad is not restored", x.count(7), 2);
        x.image(1);
        x.wipe();
        x.restore(1);
        CHECK.due("the pad is not kept", x.count(7), 0);
    }

    private static void imageInPlace() {
        HeadMarks x = Check.reading("...");
        x.image(0);
        x.cut(1, 1);
        CHECK.due("image(0), in place", x.image(0), 1);
        x.cut(2, 1);
        x.restore(0);
        CHECK.due("the later one", x.count(3), 1);
        CHECK.due("pages are of the later one", x.count(1), 2);
        CHECK.due("kept: 0", x.count(8), 1);
    }

    private static void imagesAreApart() {
        HeadMarks x = Check.reading("A");
        x.image(0);
        x.image(1);
        CHECK.due("kept: both", x.count(8), 3);
        Check.sayAll(x, "BC");
        x.read();
        x.image(1);
        x.read();
        CHECK.due("restore(0)", x.restore(0), 1);
        CHECK.due("lines of image 0", x.count(0), 1);
        CHECK.due("restore(1)", x.restore(1), 1);
        CHECK.due("lines of image 1", x.count(0), 2);
        CHECK.due("images are not restored", x.count(8), 3);
        HeadMarks empty = new HeadMarks();
        CHECK.due("an image of no lines", empty.image(0), 1);
        Check.sayAll(empty, "A.");
        empty.read();
        CHECK.due("restore no lines", empty.restore(0), 1);
        CHECK.due("no lines", empty.count(0), 0);
        CHECK.due("no pages", empty.count(1), 0);
    }

    private static void refused() {
        HeadMarks x = Check.reading("A.");
        String before = Check.stateOf(x);
        int[] outside = {-1, 2, 32, Integer.MIN_VALUE, Integer.MAX_VALUE};
        for (int k : outside) {
            CHECK.due("image(" + k + ")", x.image(k), HeadMarks.OUTSIDE);
            CHECK.due("restore(" + k + ")", x.restore(k), HeadMarks.OUTSIDE);
        }
        CHECK.due("restore(0)", x.restore(0), HeadMarks.STATE);
        CHECK.holds("refused calls change nothing", before.equals(Check.stateOf(x)));
        x.image(1);
        CHECK.due("restore(0), 1 being kept", x.restore(0), HeadMarks.STATE);
    }

    private static void count() {
        HeadMarks x = Check.reading("..A./B./C..a");
        Check.sayAll(x, "!!!");
        x.image(0);
        int[] want = {10, 3, 0, 2, 3, 0, 2, 3, 1};
        counts(x, want);
        x.rule(1, 2);
        // 1 "..", 2 blank, 3 "A.", 4 blank, 5 "B.", 6 blank, 7 "C..a"
        counts(x, new int[] {10, 7, 3, 2, 3, 0, 1, 3, 1});
        x.rule(1, 0);
        x.cut(4, 0);
        x.cut(6, 0);
        // 1 "..A.", 2 "B.C..", 3 "a"
        counts(x, new int[] {10, 3, 0, 0, 3, 1, 2, 3, 1});
        x.cut(8, 1);
        x.cut(3, 1);
        // 1 "..A", 2 ".B.C.", 3 ".a"
        counts(x, new int[] {10, 3, 0, 2, 3, 1, 2, 3, 1});
        CHECK.due("the last page counts, too", Check.reading(".../AB").count(5), 1);
        for (int r = 0; r < 9; r++) {
            CHECK.due("count of rule " + r, x.count(10 + r), new int[] {5, 0, 1, 1, 0, 0, 1, 1, 2}[r]);
        }
    }

    private static void counts(HeadMarks x, int[] want) {
        for (int what = 0; what < want.length; what++) {
            CHECK.due("count(" + what + ")", x.count(what), want[what]);
        }
    }

    private static void countRefused() {
        HeadMarks x = Check.reading("A.");
        int[] outside = {-1, 9, 19, 20, Integer.MIN_VALUE, Integer.MAX_VALUE};
        for (int what : outside) {
            CHECK.due("count(" + what + ")", x.count(what), HeadMarks.OUTSIDE);
        }
    }
}
