/** The boundary cases of "Terms" 1 and of the promises 1 to 7, a sentence of the document at a time. */
public final class TextEdgesTest {
    private static final Check CHECK = new Check();
    private static final int NONE = HeadMarks.NONE;
    private static final int OUTSIDE = HeadMarks.OUTSIDE;
    private static final int UNKNOWN = HeadMarks.UNKNOWN;
    private static final int LOWEST = Integer.MIN_VALUE;
    private static final int HIGHEST = Integer.MAX_VALUE;
    private static final String LETTERS = "ABCDEFGHabcdefgh";
    private static final int[] RULES_AT_FIRST = {5, 0, 1, 1, 0, 0, 1, 1, 2};

    public static void main(String[] args) {
        padHasUpToSixtySigns();
        eachSignAlone();
        eachSignBehindALine();
        eachSignBehindABreak();
        breakIsNoLine();
        breakBehindABreak();
        breakAtTheBeginning();
        breakAtTheEnd();
        firstOfSeveralFaults();
        moreMustCome();
        noFault();
        linesFromZero();
        titlesSeveralTimes();
        rulesAtFirst();
        rulesLeastAndGreatest();
        keepNeverHighOrMore();
        newObject();
        sayNumbers();
        sayFull();
        sayAgain();
        wipeOfEachSize();
        wipeLeavesAllElse();
        faultOfThePadAsItIs();
        readLeastAndMost();
        readEmptiesThePad();
        readInPlaceOfTheText();
        readLeavesAllElse();
        readFault();
        ruleTellsWhichItWas();
        ruleOutside();
        cutComes();
        cutGoes();
        cutTwice();
        cutMost();
        cutUnknown();
        cutOutside();
        CHECK.end();
    }

    private static HeadMarks saying(String signs) {
        HeadMarks x = new HeadMarks();
        Check.sayAll(x, signs);
        return x;
    }

    private static void faultIs(String signs, int want) {
        CHECK.due("fault of " + signs, saying(signs).fault(), want);
    }

    // ---- Terms, 1

    private static void padHasUpToSixtySigns() {
        CHECK.sentence("1: THE PAD has up to 60 signs");
        HeadMarks x = saying(".".repeat(59));
        CHECK.due("59 signs", x.count(7), 59);
        CHECK.due("the 60th", x.say('A'), 60);
        CHECK.due("the 61st", x.say('B'), HeadMarks.FULL);
        CHECK.due("60 signs", x.count(7), 60);
        CHECK.due("all are lines", x.read(), 60);
        CHECK.due("the 60th is as it was said", x.line(59, 0), 'A');
    }

    private static void eachSignAlone() {
        CHECK.sentence("1: . is a plain LINE; a capital A to H .., a small letter a to h ..: a LINE, too");
        for (int sign = 33; sign <= 126; sign++) {
            HeadMarks x = saying("" + (char) sign);
            boolean isLine = sign == '.' || LETTERS.indexOf(sign) >= 0;
            CHECK.due("fault of " + (char) sign, x.fault(), isLine ? NONE : 0);
            CHECK.due("read of " + (char) sign, x.read(), isLine ? 1 : HeadMarks.FAULT);
            if (isLine) {
                CHECK.due("title " + (char) sign, x.line(0, 0), sign == '.' ? NONE : sign);
            }
        }
    }

    private static void eachSignBehindALine() {
        CHECK.sentence("1: THE FAULT: the place, from 0 on, of the first sign that can not stand there");
        for (int sign = 33; sign <= 126; sign++) {
            boolean isLine = sign == '.' || LETTERS.indexOf(sign) >= 0;
            int behindLine = isLine ? NONE : sign == '/' ? 2 : 1;
            CHECK.due("fault of ." + (char) sign, saying("." + (char) sign).fault(), behindLine);
        }
    }

    private static void eachSignBehindABreak() {
        CHECK.sentence("1: / a BREAK ahead of the LINE that comes next");
        for (int sign = 33; sign <= 126; sign++) {
            boolean isLine = sign == '.' || LETTERS.indexOf(sign) >= 0;
            HeadMarks x = saying("./" + (char) sign);
            CHECK.due("fault of ./" + (char) sign, x.fault(), isLine ? NONE : 2);
            if (isLine) {
                CHECK.due("read of ./" + (char) sign, x.read(), 2);
                CHECK.same("breaks of ./" + (char) sign, Check.linesOf(x, 3), "01");
            }
        }
    }

    private static void breakIsNoLine() {
        CHECK.sentence("1: / a BREAK ..: no LINE");
        HeadMarks x = saying("./.".repeat(20));
        CHECK.due("60 signs with 20 breaks", x.read(), 40);
        CHECK.due("lines", x.count(0), 40);
        CHECK.due("breaks", x.count(3), 20);
        CHECK.same("where they are", Check.linesOf(x, 3), "01".repeat(20));
        HeadMarks most = saying("./".repeat(29) + ".");
        CHECK.due("59 signs with 29 breaks", most.read(), 30);
        CHECK.due("breaks, the most that a text has", most.count(3), 29);
        CHECK.due("the last line has one", most.line(29, 3), 1);
    }

    private static void breakBehindABreak() {
        CHECK.sentence("1: behind one another / stands no more than once");
        faultIs(".//", 2);
        faultIs(".//.", 2);
        faultIs("A/b//.", 4);
        faultIs(".///", 2);
        faultIs("././", 4);
        faultIs("./././.", NONE);
        faultIs(".".repeat(57) + "//.", 58);
        faultIs(".".repeat(58) + "//", 59);
    }

    private static void breakAtTheBeginning() {
        CHECK.sentence("1: and not at the beginning");
        faultIs("/", 0);
        faultIs("/.", 0);
        faultIs("//", 0);
        faultIs("/A./.", 0);
        faultIs("/" + ".".repeat(59), 0);
    }

    private static void breakAtTheEnd() {
        CHECK.sentence("1: nor at the end");
        faultIs("./", 2);
        faultIs("A.b/", 4);
        faultIs("./" + ".".repeat(56) + "/", 59);
        CHECK.due("not read", saying("A./").read(), HeadMarks.FAULT);
    }

    private static void firstOfSeveralFaults() {
        CHECK.sentence("1: the first sign that can not stand there");
        faultIs("!!", 0);
        faultIs("/!", 0);
        faultIs("!/", 0);
        faultIs(".I//", 1);
        faultIs(".//I", 2);
        faultIs("./i/", 2);
        faultIs("..~/", 2);
        faultIs(".".repeat(59) + "i", 59);
        faultIs(".".repeat(58) + "0/", 58);
    }

    private static void moreMustCome() {
        CHECK.sentence("1: or how many signs it has, if more must come");
        HeadMarks x = saying("./");
        CHECK.due("a line must come", x.fault(), 2);
        x.say('H');
        CHECK.due("it came", x.fault(), NONE);
        x.say('/');
        CHECK.due("a line must come again", x.fault(), 4);
        x.say('/');
        CHECK.due("a break came", x.fault(), 4);
        faultIs(".".repeat(59) + "/", 60);
    }

    private static void noFault() {
        CHECK.sentence("1: NONE: there is none (no signs: no LINES)");
        faultIs("", NONE);
        HeadMarks x = new HeadMarks();
        CHECK.due("read of no signs", x.read(), 0);
        CHECK.due("no lines", x.count(0), 0);
        faultIs(".".repeat(60), NONE);
        faultIs(LETTERS + "." + LETTERS, NONE);
    }

    private static void linesFromZero() {
        CHECK.sentence("1: LINES of THE TEXT are numbered from 0 on");
        HeadMarks x = Check.reading("A/bC");
        CHECK.due("line(-1)", x.line(-1, 0), UNKNOWN);
        CHECK.due("line(0)", x.line(0, 0), 'A');
        CHECK.due("line(1)", x.line(1, 0), 'b');
        CHECK.due("line(2)", x.line(2, 0), 'C');
        CHECK.due("line(3)", x.line(3, 0), UNKNOWN);
    }

    private static void titlesSeveralTimes() {
        CHECK.sentence("1: Titles may come several times");
        HeadMarks x = Check.reading("AaAaaAA");
        CHECK.same("titles", Check.linesOf(x, 0), "AaAaaAA");
        CHECK.due("chapters", x.count(4), 4);
    }

    private static void rulesAtFirst() {
        CHECK.sentence("1: RULES: .. at first");
        for (int r = 0; r < 9; r++) {
            CHECK.due("count(" + (10 + r) + ")", new HeadMarks().count(10 + r), RULES_AT_FIRST[r]);
            CHECK.due("rule(" + r + ")", new HeadMarks().rule(r, RULES_AT_FIRST[r]), RULES_AT_FIRST[r]);
        }
    }

    private static void ruleIs(int r, int least, int most) {
        for (int v = least; v <= most; v++) {
            HeadMarks x = new HeadMarks();
            CHECK.due("rule(" + r + ", " + v + ")", x.rule(r, v), RULES_AT_FIRST[r]);
            CHECK.due("then count(" + (10 + r) + ")", x.count(10 + r), v);
            for (int other = 0; other < 9; other++) {
                if (other != r) {
                    CHECK.due("rule " + other + " stays", x.count(10 + other), RULES_AT_FIRST[other]);
                }
            }
        }
        for (int v : new int[] {least - 1, most + 1, LOWEST, HIGHEST, least - 256, most + 65536}) {
            HeadMarks x = new HeadMarks();
            CHECK.due("rule(" + r + ", " + v + ")", x.rule(r, v), OUTSIDE);
            CHECK.due("then count(" + (10 + r) + ")", x.count(10 + r), RULES_AT_FIRST[r]);
        }
    }

    private static void rulesLeastAndGreatest() {
        CHECK.sentence("1: 0 HIGH, 2 to 9");
        ruleIs(0, 2, 9);
        CHECK.sentence("1: 1 OPEN, 0 to 2");
        ruleIs(1, 0, 2);
        CHECK.sentence("1: 2 KEEP, 0 to 2");
        ruleIs(2, 0, 2);
        CHECK.sentence("1: 3 CLEAR, 0 or 1");
        ruleIs(3, 0, 1);
        CHECK.sentence("1: 4 BARE, 0 or 1");
        ruleIs(4, 0, 1);
        CHECK.sentence("1: 5, 6 WHAT, 0 or 1");
        ruleIs(5, 0, 1);
        ruleIs(6, 0, 1);
        CHECK.sentence("1: 7, 8 HOW, 0 to 2");
        ruleIs(7, 0, 2);
        ruleIs(8, 0, 2);
    }

    private static void keepNeverHighOrMore() {
        CHECK.sentence("1: KEEP .. never HIGH or more");
        for (int high = 2; high <= 9; high++) {
            for (int keep = 0; keep <= 2; keep++) {
                HeadMarks x = new HeadMarks();
                x.rule(0, high);
                CHECK.due("KEEP " + keep + " at HIGH " + high, x.rule(2, keep), keep < high ? 1 : OUTSIDE);
                CHECK.due("KEEP then", x.count(12), keep < high ? keep : 1);
                HeadMarks y = new HeadMarks();
                y.rule(2, keep);
                CHECK.due("HIGH " + high + " at KEEP " + keep, y.rule(0, high), keep < high ? 5 : OUTSIDE);
                CHECK.due("HIGH then", y.count(10), keep < high ? high : 5);
            }
        }
    }

    // ---- Promises 1 to 7

    private static void newObject() {
        CHECK.sentence("promise 1: No LINES; THE PAD is empty; no IMAGE is kept");
        HeadMarks x = new HeadMarks();
        int[] nothing = {0, 0, 0, 0, 0, 0, 0, 0, 0};
        for (int what = 0; what <= 8; what++) {
            CHECK.due("count(" + what + ")", x.count(what), nothing[what]);
        }
        CHECK.due("line(0, 0)", x.line(0, 0), UNKNOWN);
        CHECK.due("page(1, 0)", x.page(1, 0), UNKNOWN);
        CHECK.due("wipe", x.wipe(), 0);
        CHECK.due("restore(0)", x.restore(0), HeadMarks.STATE);
        CHECK.due("restore(1)", x.restore(1), HeadMarks.STATE);
    }

    private static void sayNumbers() {
        CHECK.sentence("promise 2: OUTSIDE: it is not 33 to 126");
        for (int sign = -40; sign <= 300; sign++) {
            HeadMarks x = saying(".");
            boolean may = sign >= 33 && sign <= 126;
            CHECK.due("say(" + sign + ")", x.say(sign), may ? 2 : OUTSIDE);
            CHECK.due("signs then", x.count(7), may ? 2 : 1);
        }
        for (int sign : new int[] {LOWEST, HIGHEST, LOWEST + 46, 65536 + 46, -65536 + 46}) {
            CHECK.due("say(" + sign + ")", new HeadMarks().say(sign), OUTSIDE);
        }
    }

    private static void sayFull() {
        CHECK.sentence("promise 2: FULL: there are 60");
        HeadMarks x = new HeadMarks();
        for (int n = 1; n <= 60; n++) {
            CHECK.due("the " + n + "th", x.say('.'), n);
        }
        CHECK.due("one more", x.say('/'), HeadMarks.FULL);
        CHECK.due("and one more", x.say('/'), HeadMarks.FULL);
        CHECK.due("none is lost", x.count(7), 60);
        CHECK.due("none is another", x.fault(), NONE);
        CHECK.sentence("promise 2: OUTSIDE ahead of FULL");
        for (int sign : new int[] {32, 127, LOWEST, HIGHEST}) {
            CHECK.due("say(" + sign + ")", x.say(sign), OUTSIDE);
        }
    }

    private static void sayAgain() {
        CHECK.sentence("promise 2: A sign more on THE PAD: how many");
        HeadMarks x = saying("!".repeat(60));
        x.wipe();
        for (int n = 1; n <= 60; n++) {
            CHECK.due("behind wipe, the " + n + "th", x.say('.'), n);
        }
        CHECK.due("full behind wipe", x.say('.'), HeadMarks.FULL);
        x.read();
        for (int n = 1; n <= 60; n++) {
            CHECK.due("behind read, the " + n + "th", x.say('a'), n);
        }
        CHECK.due("full behind read", x.say('.'), HeadMarks.FULL);
    }

    private static void wipeOfEachSize() {
        CHECK.sentence("promise 3: THE PAD is empty: how many signs it had");
        HeadMarks x = new HeadMarks();
        for (int n : new int[] {0, 1, 59, 60, 60, 0}) {
            Check.sayAll(x, "!".repeat(n));
            CHECK.due("wipe of " + n, x.wipe(), n);
            CHECK.due("signs then", x.count(7), 0);
            CHECK.due("fault then", x.fault(), NONE);
        }
        Check.sayAll(x, "!!!");
        x.wipe();
        x.say('.');
        CHECK.due("none of them comes back", x.read(), 1);
    }

    private static void wipeLeavesAllElse() {
        CHECK.sentence("promise 3: all but THE PAD stays");
        HeadMarks x = Check.reading("Aa./.B", 1, 2, 2, 0);
        x.image(1);
        String before = Check.stateOf(x);
        Check.sayAll(x, "..//");
        x.wipe();
        CHECK.same("state", Check.stateOf(x), before);
    }

    private static void faultOfThePadAsItIs() {
        CHECK.sentence("promise 4: THE FAULT of THE PAD; NONE");
        HeadMarks x = Check.reading("A/b");
        CHECK.due("the text is not asked", x.fault(), NONE);
        Check.sayAll(x, ".I");
        CHECK.due("fault", x.fault(), 1);
        CHECK.due("the same again", x.fault(), 1);
        CHECK.due("the pad stays", x.count(7), 2);
        Check.sayAll(x, "...");
        CHECK.due("signs behind it mend nothing", x.fault(), 1);
        x.wipe();
        CHECK.due("wiped", x.fault(), NONE);
    }

    private static void readLeastAndMost() {
        CHECK.sentence("promise 5: THE TEXT is that on THE PAD ..: how many LINES");
        CHECK.due("no signs", new HeadMarks().read(), 0);
        CHECK.due("one sign", saying("h").read(), 1);
        CHECK.due("59 signs", saying(".".repeat(59)).read(), 59);
        CHECK.due("60 signs", saying("H".repeat(60)).read(), 60);
        CHECK.due("60 signs with a break", saying("H/" + ".".repeat(58)).read(), 59);
    }

    private static void readEmptiesThePad() {
        CHECK.sentence("promise 5: THE PAD, which is empty then");
        HeadMarks x = saying("A./b");
        x.read();
        CHECK.due("signs", x.count(7), 0);
        CHECK.due("wipe", x.wipe(), 0);
        CHECK.due("read again: no signs, no lines", x.read(), 0);
        CHECK.due("lines", x.count(0), 0);
        CHECK.due("breaks", x.count(3), 0);
    }

    private static void readInPlaceOfTheText() {
        CHECK.sentence("promise 5: THE TEXT is that on THE PAD, not that which was");
        HeadMarks x = Check.reading("A/b/./C/d");
        x.cut(1, 1);
        Check.sayAll(x, "..a/.");
        CHECK.due("read", x.read(), 4);
        CHECK.same("titles", Check.linesOf(x, 0), "--a-");
        CHECK.same("breaks", Check.linesOf(x, 3), "0001");
        CHECK.due("no line of the old one", x.line(4, 0), UNKNOWN);
        Check.sayAll(x, "......");
        CHECK.due("read a longer one", x.read(), 6);
        CHECK.same("its breaks", Check.linesOf(x, 3), "000000");
        CHECK.due("its chapters", x.count(4), 0);
    }

    private static void readLeavesAllElse() {
        CHECK.sentence("promise 5: RULES and IMAGES stay");
        int[] rules = {3, 2, 2, 0, 1, 1, 0, 2, 0};
        HeadMarks x = Check.reading("A.", 0, 3, 1, 2, 2, 2, 3, 0, 4, 1, 5, 1, 6, 0, 7, 2, 8, 0);
        x.image(0);
        Check.sayAll(x, "..B");
        x.read();
        for (int r = 0; r < 9; r++) {
            CHECK.due("rule " + r, x.count(10 + r), rules[r]);
        }
        CHECK.due("images", x.count(8), 1);
        CHECK.due("restore(0)", x.restore(0), 1);
        CHECK.same("its text", Check.linesOf(x, 0), "A-");
    }

    private static void readFault() {
        CHECK.sentence("promise 5: FAULT");
        for (String signs : new String[] {"/", "!", "./", ".//.", "A.b.I", ".".repeat(59) + "/"}) {
            HeadMarks x = Check.reading("A/b");
            Check.sayAll(x, signs);
            CHECK.due("read of " + signs, x.read(), HeadMarks.FAULT);
            CHECK.due("the pad stays " + signs, x.count(7), signs.length());
            CHECK.same("the text stays", Check.linesOf(x, 0) + Check.linesOf(x, 3), "Ab01");
            CHECK.due("read again", x.read(), HeadMarks.FAULT);
        }
        HeadMarks x = saying("./");
        x.read();
        x.say('.');
        CHECK.due("mended by a sign more", x.read(), 2);
    }

    private static void ruleTellsWhichItWas() {
        CHECK.sentence("promise 6: A RULE is v: which it was");
        HeadMarks x = new HeadMarks();
        CHECK.due("rule(0, 9)", x.rule(0, 9), 5);
        CHECK.due("rule(0, 9) again", x.rule(0, 9), 9);
        CHECK.due("rule(0, 2)", x.rule(0, 2), 9);
        CHECK.due("rule(0, 5)", x.rule(0, 5), 2);
        CHECK.due("rule(1, 0): 0 is no refusal", x.rule(1, 0), 0);
    }

    private static void ruleOutside() {
        CHECK.sentence("promise 6: OUTSIDE: both");
        HeadMarks x = new HeadMarks();
        for (int what : new int[] {-1, 9, 10, 18, LOWEST, HIGHEST}) {
            for (int v : new int[] {0, 1, 2, 5, -1, 10}) {
                CHECK.due("rule(" + what + ", " + v + ")", x.rule(what, v), OUTSIDE);
            }
        }
        for (int r = 0; r < 9; r++) {
            CHECK.due("rule " + r + " stays", x.count(10 + r), RULES_AT_FIRST[r]);
        }
        CHECK.sentence("promise 6: KEEP that is HIGH or more, HIGH that is not above KEEP, too");
        CHECK.due("HIGH 2 above KEEP 1", x.rule(0, 2), 5);
        CHECK.due("KEEP 2 is HIGH", x.rule(2, 2), OUTSIDE);
        CHECK.due("HIGH 3", x.rule(0, 3), 2);
        CHECK.due("KEEP 2 below HIGH 3", x.rule(2, 2), 1);
        CHECK.due("HIGH 2 is KEEP", x.rule(0, 2), OUTSIDE);
        CHECK.due("HIGH 3 again, above KEEP 2", x.rule(0, 3), 3);
        CHECK.due("KEEP 1", x.rule(2, 1), 2);
        CHECK.due("HIGH 2 above KEEP 1 again", x.rule(0, 2), 3);
    }

    private static void cutComes() {
        CHECK.sentence("promise 7: A BREAK comes ahead of a LINE (is = 1) ..: how many BREAKS there are");
        HeadMarks x = Check.reading("...");
        CHECK.due("cut(1, 1), the first that may", x.cut(1, 1), 1);
        CHECK.same("breaks", Check.linesOf(x, 3), "010");
        CHECK.same("pages", Check.pagesOf(x), ".|..");
        CHECK.due("cut(2, 1), the last line", x.cut(2, 1), 2);
        CHECK.same("breaks", Check.linesOf(x, 3), "011");
        CHECK.same("pages", Check.pagesOf(x), ".|.|.");
    }

    private static void cutGoes() {
        CHECK.sentence("promise 7: or goes (0)");
        HeadMarks x = Check.reading("./././.");
        CHECK.due("cut(3, 0), the last line", x.cut(3, 0), 2);
        CHECK.same("breaks", Check.linesOf(x, 3), "0110");
        CHECK.due("cut(1, 0)", x.cut(1, 0), 1);
        CHECK.due("cut(2, 0)", x.cut(2, 0), 0);
        CHECK.same("pages", Check.pagesOf(x), "....");
        CHECK.due("count", x.count(3), 0);
    }

    private static void cutTwice() {
        CHECK.sentence("promise 7: a BREAK that is, or that is not, already");
        HeadMarks x = Check.reading("./..");
        CHECK.due("cut(1, 1), it is there", x.cut(1, 1), 1);
        CHECK.due("cut(2, 0), there is none", x.cut(2, 0), 1);
        CHECK.same("breaks", Check.linesOf(x, 3), "010");
        CHECK.due("cut(2, 1)", x.cut(2, 1), 2);
        CHECK.due("cut(2, 1) again", x.cut(2, 1), 2);
        CHECK.due("cut(2, 0)", x.cut(2, 0), 1);
        CHECK.due("cut(2, 0) again", x.cut(2, 0), 1);
    }

    private static void cutMost() {
        CHECK.sentence("promise 7: ahead of each LINE that there can be");
        HeadMarks x = Check.reading(".".repeat(60));
        for (int k = 1; k <= 59; k++) {
            CHECK.due("cut(" + k + ", 1)", x.cut(k, 1), k);
        }
        CHECK.due("pages", x.count(1), 60);
        CHECK.due("cut(60, 1)", x.cut(60, 1), UNKNOWN);
        for (int k = 59; k >= 1; k--) {
            CHECK.due("cut(" + k + ", 0)", x.cut(k, 0), k - 1);
        }
        CHECK.due("pages again", x.count(1), 12);
    }

    private static void cutUnknown() {
        CHECK.sentence("promise 7: UNKNOWN: also LINE 0");
        HeadMarks x = Check.reading("A./b");
        for (int line : new int[] {0, -1, 3, 4, 60, LOWEST, HIGHEST}) {
            CHECK.due("cut(" + line + ", 1)", x.cut(line, 1), UNKNOWN);
            CHECK.due("cut(" + line + ", 0)", x.cut(line, 0), UNKNOWN);
        }
        CHECK.same("breaks stay", Check.linesOf(x, 3), "001");
        HeadMarks one = Check.reading("A");
        CHECK.due("one line: cut(0, 1)", one.cut(0, 1), UNKNOWN);
        CHECK.due("one line: cut(1, 1)", one.cut(1, 1), UNKNOWN);
        HeadMarks none = new HeadMarks();
        CHECK.due("no lines: cut(0, 1)", none.cut(0, 1), UNKNOWN);
        CHECK.due("no lines: cut(1, 1)", none.cut(1, 1), UNKNOWN);
        CHECK.due("no breaks", none.count(3) + one.count(3), 0);
    }

    private static void cutOutside() {
        CHECK.sentence("promise 7: OUTSIDE");
        HeadMarks x = Check.reading("A./b");
        for (int is : new int[] {-1, 2, LOWEST, HIGHEST, 256, -6}) {
            CHECK.due("cut(1, " + is + ")", x.cut(1, is), OUTSIDE);
            CHECK.due("cut(2, " + is + ")", x.cut(2, is), OUTSIDE);
        }
        CHECK.same("breaks stay", Check.linesOf(x, 3), "001");
        CHECK.sentence("promise 7: UNKNOWN ahead of OUTSIDE");
        for (int line : new int[] {0, -1, 3, LOWEST, HIGHEST}) {
            CHECK.due("cut(" + line + ", 2)", x.cut(line, 2), UNKNOWN);
            CHECK.due("cut(" + line + ", -1)", x.cut(line, -1), UNKNOWN);
        }
    }
}
