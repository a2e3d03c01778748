import java.util.function.Consumer;

/** The boundary cases of the promises 16 to 18, and of what "Terms" says of all calls. */
public final class ImageEdgesTest {
    private static final Check CHECK = new Check();
    private static final int NONE = HeadMarks.NONE;
    private static final int OUTSIDE = HeadMarks.OUTSIDE;
    private static final int STATE = HeadMarks.STATE;
    private static final int LOWEST = Integer.MIN_VALUE;
    private static final int HIGHEST = Integer.MAX_VALUE;
    private static final int HIGH = 0, OPEN = 1, KEEP = 2, BARE = 4, WHAT_RIGHT = 6;

    public static void main(String[] args) {
        imageKeepsAll();
        imageOfTheLongestText();
        imageLeavesThePad();
        imageInPlace();
        imageOfNothing();
        imagesAreNotInImages();
        imageStays();
        imageOutside();
        restoreState();
        restoreOutside();
        countLeastAndMost();
        countImages();
        countRules();
        countOutside();
        asThingsAre();
        codesOfLetters();
        callsUpToTheLast();
        objectsAreApart();
        CHECK.end();
    }

    private static String all(HeadMarks x) {
        return Check.stateOf(x) + " " + Check.pagesOf(x) + " " + Check.headsOf(x) + " " + Check.sharedOf(x);
    }

    // ---- Promises 16 and 17

    private static void imageKeepsAll() {
        CHECK.sentence("promise 16: All .. is kept; promise 17: All .. is as it was when it was kept");
        for (int k = 0; k <= 1; k++) {
            restoredBehind(k, "other rules", ImageEdgesTest::otherRules);
            restoredBehind(k, "a break that went", x -> x.cut(2, 0));
            restoredBehind(k, "a break that came", x -> x.cut(1, 1));
            restoredBehind(k, "a longer text", x -> readAnother(x, "C/".repeat(9) + "c"));
            restoredBehind(k, "a shorter text", x -> readAnother(x, "./c"));
            restoredBehind(k, "no text", HeadMarks::read);
        }
    }

    private static void restoredBehind(int k, String name, Consumer<HeadMarks> change) {
        HeadMarks x = Check.reading("Aa/.B.b", 0, 3, 1, 2, 2, 2, 3, 0, 4, 1, 5, 1, 6, 0, 7, 2, 8, 0);
        x.cut(4, 1);
        CHECK.due("image(" + k + ")", x.image(k), 1);
        String kept = all(x);
        change.accept(x);
        CHECK.holds(name + " is seen", !all(x).equals(kept));
        CHECK.due("restore(" + k + ") behind " + name, x.restore(k), 1);
        CHECK.same("all behind " + name, all(x), kept);
    }

    private static void otherRules(HeadMarks x) {
        int[] others = {9, 0, 1, 1, 0, 0, 1, 1, 2};
        for (int r = 0; r < 9; r++) {
            x.rule(r, others[r]);
        }
    }

    private static void readAnother(HeadMarks x, String text) {
        Check.sayAll(x, text);
        x.read();
    }

    private static void imageOfTheLongestText() {
        CHECK.sentence("promise 16, 17: All of 60 LINES and of 59 BREAKS");
        String lines = "ABCDEFGH.abcdefgh.".repeat(3) + "Aa.b.C";
        for (int k = 0; k <= 1; k++) {
            HeadMarks x = Check.reading(lines);
            for (int line = 1; line < 60; line++) {
                x.cut(line, 1);
            }
            x.image(k);
            // Each line is another one, so that none is as it was but by restore.
            Check.sayAll(x, "h".repeat(60));
            x.read();
            CHECK.due("restore(" + k + ")", x.restore(k), 1);
            CHECK.same("titles", Check.linesOf(x, 0), lines.replace('.', '-'));
            CHECK.same("breaks", Check.linesOf(x, 3), "0" + "1".repeat(59));
            CHECK.due("pages", x.count(1), 60);
        }
    }

    private static void imageLeavesThePad() {
        CHECK.sentence("promise 16, 17: All but THE PAD");
        HeadMarks x = Check.reading("A.");
        Check.sayAll(x, "..a");
        x.image(0);
        CHECK.due("image leaves the pad", x.count(7), 3);
        x.wipe();
        x.restore(0);
        CHECK.due("restore brings no pad", x.count(7), 0);
        Check.sayAll(x, ".".repeat(59) + "/");
        x.restore(0);
        CHECK.due("restore leaves a full pad", x.count(7), 60);
        CHECK.due("and its signs", x.fault(), 60);
        CHECK.due("the text is that of the image", x.count(0), 2);
    }

    private static void imageInPlace() {
        CHECK.sentence("promise 16: in place of what was kept there");
        HeadMarks x = Check.reading("Aa.");
        x.image(0);
        Check.sayAll(x, "..");
        x.read();
        CHECK.due("image(0) again", x.image(0), 1);
        x.read();
        x.restore(0);
        CHECK.same("the later text", Check.linesOf(x, 0), "--");
        x.rule(HIGH, 7);
        x.image(0);
        x.rule(HIGH, 3);
        x.restore(0);
        CHECK.due("the later rule", x.count(10), 7);
    }

    private static void imageOfNothing() {
        CHECK.sentence("promise 16: an IMAGE of no LINES is kept, too");
        HeadMarks x = new HeadMarks();
        CHECK.due("image(1)", x.image(1), 1);
        Check.sayAll(x, "A/B");
        x.read();
        x.rule(OPEN, 2);
        CHECK.due("restore(1)", x.restore(1), 1);
        CHECK.due("lines", x.count(0), 0);
        CHECK.due("pages", x.count(1), 0);
        CHECK.due("breaks", x.count(3), 0);
        CHECK.due("OPEN", x.count(11), 0);
        CHECK.due("page(1, 0)", x.page(1, 0), HeadMarks.UNKNOWN);
    }

    private static void imagesAreNotInImages() {
        CHECK.sentence("promise 16, 17: All but .. IMAGES");
        HeadMarks x = Check.reading("A");
        x.image(0);
        Check.sayAll(x, "Bb");
        x.read();
        x.image(1);
        CHECK.due("restore(0)", x.restore(0), 1);
        CHECK.due("image 1, kept behind image 0, is kept", x.count(8), 3);
        CHECK.same("text of image 0", Check.linesOf(x, 0), "A");
        CHECK.due("restore(1)", x.restore(1), 1);
        CHECK.same("text of image 1", Check.linesOf(x, 0), "Bb");
        CHECK.due("restore(0) again", x.restore(0), 1);
        CHECK.same("text of image 0 again", Check.linesOf(x, 0), "A");
        x.image(1);
        x.read();
        x.restore(1);
        CHECK.same("image 1 is what was restored from image 0", Check.linesOf(x, 0), "A");
    }

    private static void imageStays() {
        CHECK.sentence("promise 17: the IMAGE stays");
        HeadMarks x = Check.reading("A./a", BARE, 1);
        x.image(0);
        String kept = all(x);
        for (int again = 0; again < 3; again++) {
            x.cut(1, 1);
            x.cut(2, 0);
            x.rule(BARE, 0);
            CHECK.due("restore(0)", x.restore(0), 1);
            CHECK.same("what is changed behind it is not in it", all(x), kept);
            CHECK.due("kept", x.count(8), 1);
        }
        Check.sayAll(x, "BBB");
        x.read();
        x.restore(0);
        CHECK.same("a text read behind it is not in it", all(x), kept);
    }

    private static void imageOutside() {
        CHECK.sentence("promise 16: OUTSIDE");
        HeadMarks x = Check.reading("A.");
        for (int k : new int[] {-1, 2, 3, 32, 33, -32, LOWEST, HIGHEST}) {
            CHECK.due("image(" + k + ")", x.image(k), OUTSIDE);
            CHECK.due("kept", x.count(8), 0);
        }
    }

    private static void restoreState() {
        CHECK.sentence("promise 17: STATE: nothing was kept in it");
        HeadMarks x = Check.reading("A.");
        CHECK.due("restore(0)", x.restore(0), STATE);
        CHECK.due("restore(1)", x.restore(1), STATE);
        CHECK.due("lines stay", x.count(0), 2);
        x.image(1);
        CHECK.due("restore(0), 1 being kept", x.restore(0), STATE);
        CHECK.due("restore(1), being kept", x.restore(1), 1);
        HeadMarks y = Check.reading("A.");
        y.image(0);
        CHECK.due("restore(1), 0 being kept", y.restore(1), STATE);
        CHECK.due("restore(0), being kept", y.restore(0), 1);
        CHECK.due("no lines: restore(0)", new HeadMarks().restore(0), STATE);
    }

    private static void restoreOutside() {
        CHECK.sentence("promise 17: OUTSIDE, ahead of STATE");
        HeadMarks both = Check.reading("A.");
        both.image(0);
        both.image(1);
        for (int k : new int[] {-1, 2, 3, 32, 33, -32, LOWEST, HIGHEST}) {
            CHECK.due("nothing kept: restore(" + k + ")", new HeadMarks().restore(k), OUTSIDE);
            CHECK.due("both kept: restore(" + k + ")", both.restore(k), OUTSIDE);
        }
    }

    // ---- Promise 18

    private static void counts(String name, HeadMarks x, int... want) {
        for (int what = 0; what < want.length; what++) {
            CHECK.due(name + ": count(" + what + ")", x.count(what), want[what]);
        }
    }

    private static void countLeastAndMost() {
        CHECK.sentence("promise 18: LINES, PAGES, BLANK PAGES, BREAKS, CHAPTERS, SHARED, HEADS, signs, IMAGES");
        counts("new", new HeadMarks(), 0, 0, 0, 0, 0, 0, 0, 0, 0);
        counts("one plain line", Check.reading("."), 1, 1, 0, 0, 0, 0, 0, 0, 0);
        counts("one chapter", Check.reading("A", WHAT_RIGHT, 0), 1, 1, 0, 0, 1, 0, 1, 0, 0);
        counts("119 pages", Check.reading("A".repeat(60), OPEN, 2, WHAT_RIGHT, 0), 60, 119, 59, 0, 60, 0, 60, 0, 0);
        counts("30 shared", Check.reading("A".repeat(60), KEEP, 0, HIGH, 2), 60, 30, 0, 0, 60, 30, 15, 0, 0);
        HeadMarks breaks = Check.reading("A" + ".".repeat(59), WHAT_RIGHT, 0);
        for (int k = 1; k < 60; k++) {
            breaks.cut(k, 1);
        }
        counts("59 breaks", breaks, 60, 60, 0, 59, 1, 0, 60, 0, 0);
        HeadMarks full = new HeadMarks();
        Check.sayAll(full, "!".repeat(60));
        counts("a full pad", full, 0, 0, 0, 0, 0, 0, 0, 60, 0);
        CHECK.sentence("promise 18: PAGES that have a HEAD and something in force for it (6)");
        CHECK.due("nothing in force", Check.reading("./.").count(6), 0);
        CHECK.due("nothing of that class", Check.reading("A").count(6), 0);
        CHECK.due("bare", Check.reading("Aa/.", BARE, 1).count(6), 1);
        CHECK.due("blank", Check.reading("AB", OPEN, 2, WHAT_RIGHT, 0).count(6), 2);
    }

    private static void countImages() {
        CHECK.sentence("promise 18: which IMAGES are kept, a set: bits 0, 1 (8)");
        HeadMarks x = new HeadMarks();
        x.image(0);
        CHECK.due("0", x.count(8), 1);
        x.image(0);
        CHECK.due("0 again", x.count(8), 1);
        x.image(1);
        CHECK.due("both", x.count(8), 3);
        x.image(1);
        CHECK.due("1 again", x.count(8), 3);
        HeadMarks y = new HeadMarks();
        y.image(1);
        CHECK.due("1", y.count(8), 2);
    }

    private static void countRules() {
        CHECK.sentence("promise 18: RULES (10 to 18)");
        int[] most = {9, 2, 2, 1, 1, 1, 1, 2, 2};
        int[] least = {2, 0, 0, 0, 0, 0, 0, 0, 0};
        HeadMarks x = new HeadMarks();
        for (int r = 0; r < 9; r++) {
            x.rule(r, most[r]);
        }
        for (int r = 0; r < 9; r++) {
            CHECK.due("count(" + (10 + r) + ")", x.count(10 + r), most[r]);
        }
        for (int r = 8; r >= 0; r--) {
            x.rule(r, least[r]);
        }
        for (int r = 0; r < 9; r++) {
            CHECK.due("count(" + (10 + r) + ")", x.count(10 + r), least[r]);
        }
    }

    private static void countOutside() {
        CHECK.sentence("promise 18: OUTSIDE");
        for (HeadMarks x : new HeadMarks[] {new HeadMarks(), Check.reading("A/b")}) {
            for (int what : new int[] {-1, 9, 19, 20, -2, -6, -10, 256, LOWEST, LOWEST + 10, HIGHEST}) {
                CHECK.due("count(" + what + ")", x.count(what), OUTSIDE);
            }
        }
    }

    // ---- Terms: all calls

    /** What each asking call tells of "A.bB.c" by rules, cuts and texts that change it. */
    private static String told(HeadMarks x) {
        return x.line(3, 1) + " " + x.line(3, 2) + " " + x.page(2, 0) + " " + x.page(1, 2) + " " + x.mark(2, 1, 0)
            + " " + x.headed('A', -1) + " " + x.chapter(1, 1) + " " + x.changed(4) + " " + x.worst(0) + " " + x.fit(2)
            + " " + x.count(1) + " " + x.count(3) + " " + x.count(5) + " " + x.count(6);
    }

    private static void asThingsAre() {
        CHECK.sentence("Terms: All that is told is as things are when it is asked");
        HeadMarks x = Check.reading("A.bB.c");
        // "A.bB.|c": B on page 1, at 3; the heads are - B.
        CHECK.same("at first", told(x), "1 3 1 -6 -6 0 1 0 1 4 2 0 1 1");
        x.rule(OPEN, 2);
        // "A.b||B.c": B on page 3, at 0; the heads are b - c.
        CHECK.same("behind rule", told(x), "3 0 0 98 98 0 3 2 1 -6 3 0 0 2");
        x.cut(1, 1);
        // "A|.b|B.c": B is on page 3 without a blank one; the heads are - A c.
        CHECK.same("behind cut", told(x), "3 0 2 -6 -6 1 3 2 1 -6 3 1 0 2");
        x.image(0);
        Check.sayAll(x, "aA.B.");
        x.read();
        // "a||A.||B.": B on page 5, the heads are a - - - -.
        CHECK.same("behind read", told(x), "5 0 0 97 97 0 5 1 2 -6 5 0 0 1");
        x.restore(0);
        CHECK.same("behind restore", told(x), "3 0 2 -6 -6 1 3 2 1 -6 3 1 0 2");
        x.rule(OPEN, 0);
        x.cut(1, 0);
        CHECK.same("as at first", told(x), "1 3 1 -6 -6 0 1 0 1 4 2 0 1 1");
    }

    private static void codesOfLetters() {
        CHECK.sentence("Terms: Titles are told by the codes of their letters");
        String letters = "ABCDEFGHabcdefgh";
        for (int i = 0; i < 16; i++) {
            int code = i < 8 ? 65 + i : 97 + i - 8;
            int cls = i / 8;
            HeadMarks x = Check.reading("" + letters.charAt(i), WHAT_RIGHT, cls);
            CHECK.due("line(0, 0)", x.line(0, 0), code);
            CHECK.due("line(0, " + (4 + cls) + ")", x.line(0, 4 + cls), code);
            CHECK.due("page(1, 2)", x.page(1, 2), code);
            CHECK.due("mark(1, " + cls + ", 2)", x.mark(1, cls, 2), code);
            CHECK.due("headed(" + code + ", 0)", x.headed(code, 0), 1);
            CHECK.due("chapter(0, 0)", x.chapter(0, 0), cls == 0 ? code : NONE);
        }
    }

    private static void callsUpToTheLast() {
        CHECK.sentence("What it is: An object is used for at most 512 calls");
        HeadMarks y = new HeadMarks();
        for (int n = 1; n <= 511; n += 7) {
            CHECK.due("call " + n, y.say('A'), 1);
            CHECK.due("call " + (n + 1), y.say('b'), 2);
            CHECK.due("call " + (n + 2), y.read(), 2);
            CHECK.due("call " + (n + 3), y.image(n % 2), 1);
            CHECK.due("call " + (n + 4), y.restore(n % 2), 1);
            CHECK.due("call " + (n + 5), y.rule(0, 5), 5);
            CHECK.due("call " + (n + 6), y.worst(1), 2);
        }
        CHECK.due("call 512", y.count(8), 3);
    }

    private static void objectsAreApart() {
        CHECK.sentence("promise 1: A new object, whatever others hold");
        HeadMarks x = Check.reading("Aa/b", OPEN, 2);
        x.say('.');
        x.image(0);
        HeadMarks y = new HeadMarks();
        counts("the new one", y, 0, 0, 0, 0, 0, 0, 0, 0, 0);
        CHECK.due("its OPEN", y.count(11), 0);
        y.rule(OPEN, 1);
        y.image(1);
        counts("the other", x, 3, 2, 0, 1, 1, 0, 2, 1, 1);
        CHECK.due("the other's OPEN", x.count(11), 2);
    }
}
