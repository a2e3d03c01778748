/** Promises 1 to 7: a new object, say, wipe, fault, read, rule, cut. */
public final class TextsTest {
    private static final Check CHECK = new Check();

    public static void main(String[] args) {
        newObject();
        say();
        wipe();
        fault();
        read();
        rule();
        ruleOfKeepAndHigh();
        cut();
        CHECK.end();
    }

    private static void newObject() {
        HeadMarks x = new HeadMarks();
        for (int what = 0; what <= 8; what++) {
            CHECK.due("new: count(" + what + ")", x.count(what), 0);
        }
        int[] rules = {5, 0, 1, 1, 0, 0, 1, 1, 2};
        for (int r = 0; r < rules.length; r++) {
            CHECK.due("new: rule " + r, x.count(10 + r), rules[r]);
        }
        CHECK.due("new: fault", x.fault(), HeadMarks.NONE);
        CHECK.due("new: restore(0)", x.restore(0), HeadMarks.STATE);
        CHECK.due("new: restore(1)", x.restore(1), HeadMarks.STATE);
        HeadMarks other = Check.reading("A.");
        CHECK.due("objects are apart", new HeadMarks().count(0), 0);
        CHECK.due("objects are apart, the other", other.count(0), 2);
    }

    private static void say() {
        HeadMarks x = new HeadMarks();
        int[] outside = {32, 127, 0, -1, 128, 256 + 46, Integer.MIN_VALUE, Integer.MAX_VALUE};
        for (int sign : outside) {
            CHECK.due("say(" + sign + ")", x.say(sign), HeadMarks.OUTSIDE);
        }
        CHECK.due("say(33)", x.say(33), 1);
        CHECK.due("say(126)", x.say(126), 2);
        for (int n = 3; n <= 60; n++) {
            CHECK.due("say, the " + n + "th", x.say('.'), n);
        }
        CHECK.due("say, full", x.say('.'), HeadMarks.FULL);
        CHECK.due("say, full and outside", x.say(32), HeadMarks.OUTSIDE);
        CHECK.due("say, count", x.count(7), 60);
    }

    private static void wipe() {
        HeadMarks x = Check.reading("A.b");
        CHECK.due("wipe, empty", x.wipe(), 0);
        Check.sayAll(x, "x/.");
        CHECK.due("wipe", x.wipe(), 3);
        CHECK.due("wipe, again", x.wipe(), 0);
        CHECK.due("wipe, count", x.count(7), 0);
        CHECK.due("wipe leaves the text", x.count(0), 3);
        CHECK.due("wipe, say", x.say('.'), 1);
        CHECK.due("wipe, old signs are gone", x.fault(), HeadMarks.NONE);
    }

    private static void faultOf(String signs, int want) {
        HeadMarks x = new HeadMarks();
        Check.sayAll(x, signs);
        CHECK.due("fault of " + signs, x.fault(), want);
        CHECK.due("fault leaves the pad " + signs, x.count(7), signs.length());
        CHECK.due("read of " + signs, x.read(),
            want == HeadMarks.NONE ? signs.replace("/", "").length() : HeadMarks.FAULT);
    }

    private static void fault() {
        faultOf("", HeadMarks.NONE);
        faultOf(".", HeadMarks.NONE);
        faultOf("ABCDEFGHabcdefgh.", HeadMarks.NONE);
        faultOf("./.", HeadMarks.NONE);
        faultOf("A/b/./C", HeadMarks.NONE);
        faultOf("/", 0);
        faultOf("/.", 0);
        faultOf("//", 0);
        faultOf("./", 2);
        faultOf(".//.", 2);
        faultOf(".//", 2);
        faultOf("././", 4);
        faultOf("I", 0);
        faultOf(".i", 1);
        faultOf("..@", 2);
        faultOf("..`", 2);
        faultOf(".-", 1);
        faultOf(".0", 1);
        faultOf("./x/", 2);
        faultOf("." .repeat(60), HeadMarks.NONE);
        faultOf("." .repeat(59) + "/", 60);
        faultOf("." .repeat(59) + "!", 59);
    }

    private static void read() {
        HeadMarks x = new HeadMarks();
        CHECK.due("read, empty", x.read(), 0);
        Check.sayAll(x, "A./b");
        CHECK.due("read", x.read(), 3);
        CHECK.due("read empties the pad", x.count(7), 0);
        CHECK.due("read, breaks", x.count(3), 1);
        CHECK.due("read, break ahead of 2", x.line(2, 3), 1);
        CHECK.due("read, title", x.line(2, 0), 'b');
        x.rule(0, 7);
        Check.sayAll(x, "./");
        String before = Check.stateOf(x);
        CHECK.due("read, fault", x.read(), HeadMarks.FAULT);
        CHECK.holds("read, refused, changes nothing", before.equals(Check.stateOf(x)));
        x.say('.');
        CHECK.due("read, other text", x.read(), 2);
        CHECK.due("read, old titles are gone", x.line(0, 0), HeadMarks.NONE);
        CHECK.due("read, breaks of the other text", x.line(1, 3), 1);
        CHECK.due("read leaves the rules", x.count(10), 7);
        Check.sayAll(x, "...");
        CHECK.due("read, a longer text", x.read(), 3);
        CHECK.due("read, old breaks are gone", x.count(3), 0);
        Check.sayAll(x, "../.");
        CHECK.due("read, a break", x.read(), 3);
        Check.sayAll(x, "..");
        CHECK.due("read, a shorter text", x.read(), 2);
        CHECK.due("read, a break behind its end is gone", x.count(3), 0);
        CHECK.due("read, a line behind its end is gone", x.line(2, 3), HeadMarks.UNKNOWN);
        CHECK.due("read, no signs", x.read(), 0);
        CHECK.due("read, no lines", x.count(0), 0);
        CHECK.due("read, no pages", x.count(1), 0);
    }

    private static void rule() {
        int[] least = {2, 0, 0, 0, 0, 0, 0, 0, 0};
        int[] most = {9, 2, 2, 1, 1, 1, 1, 2, 2};
        for (int r = 0; r < least.length; r++) {
            HeadMarks x = new HeadMarks();
            int was = x.count(10 + r);
            for (int v = least[r]; v <= most[r]; v++) {
                CHECK.due("rule(" + r + ", " + v + ")", x.rule(r, v), was);
                CHECK.due("count of rule " + r, x.count(10 + r), v);
                was = v;
            }
            CHECK.due("rule " + r + " too low", x.rule(r, least[r] - 1), HeadMarks.OUTSIDE);
            CHECK.due("rule " + r + " too high", x.rule(r, most[r] + 1), HeadMarks.OUTSIDE);
            CHECK.due("rule " + r + " lowest int", x.rule(r, Integer.MIN_VALUE), HeadMarks.OUTSIDE);
            CHECK.due("rule " + r + " highest int", x.rule(r, Integer.MAX_VALUE), HeadMarks.OUTSIDE);
            CHECK.due("rule " + r + " stays", x.count(10 + r), was);
        }
        HeadMarks x = new HeadMarks();
        int[] noRules = {-1, 9, 10, Integer.MIN_VALUE, Integer.MAX_VALUE};
        for (int r : noRules) {
            CHECK.due("rule(" + r + ", 1)", x.rule(r, 1), HeadMarks.OUTSIDE);
        }
    }

    private static void ruleOfKeepAndHigh() {
        HeadMarks x = new HeadMarks();
        CHECK.due("high 2 above keep 1", x.rule(0, 2), 5);
        CHECK.due("keep 2 at high 2", x.rule(2, 2), HeadMarks.OUTSIDE);
        CHECK.due("keep stays", x.count(12), 1);
        CHECK.due("high 3", x.rule(0, 3), 2);
        CHECK.due("keep 2 at high 3", x.rule(2, 2), 1);
        CHECK.due("high 2 at keep 2", x.rule(0, 2), HeadMarks.OUTSIDE);
        CHECK.due("high stays", x.count(10), 3);
        CHECK.due("keep 0", x.rule(2, 0), 2);
        CHECK.due("high 1 at keep 0", x.rule(0, 1), HeadMarks.OUTSIDE);
        CHECK.due("high 2 at keep 0", x.rule(0, 2), 3);
    }

    private static void cut() {
        HeadMarks x = Check.reading("../.A");
        CHECK.due("cut(1, 1)", x.cut(1, 1), 2);
        CHECK.due("cut(1, 1) again", x.cut(1, 1), 2);
        CHECK.due("cut makes pages", x.count(1), 3);
        CHECK.due("cut(2, 0)", x.cut(2, 0), 1);
        CHECK.due("cut(2, 0) again", x.cut(2, 0), 1);
        CHECK.due("cut takes pages", x.count(1), 2);
        CHECK.due("cut(3, 1), the last line", x.cut(3, 1), 2);
        CHECK.due("cut at a line", x.line(3, 3), 1);
        String before = Check.stateOf(x);
        int[] unknown = {0, -1, 4, 60, Integer.MIN_VALUE, Integer.MAX_VALUE};
        for (int line : unknown) {
            CHECK.due("cut(" + line + ", 1)", x.cut(line, 1), HeadMarks.UNKNOWN);
            CHECK.due("cut(" + line + ", 0)", x.cut(line, 0), HeadMarks.UNKNOWN);
            CHECK.due("cut(" + line + ", 2)", x.cut(line, 2), HeadMarks.UNKNOWN);
        }
        CHECK.due("cut(2, 2)", x.cut(2, 2), HeadMarks.OUTSIDE);
        CHECK.due("cut(2, -1)", x.cut(2, -1), HeadMarks.OUTSIDE);
        CHECK.holds("cut, refused, changes nothing", before.equals(Check.stateOf(x)));
    }
}
