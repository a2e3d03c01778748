/** The boundary cases of "Terms" 2 and of the promises 8 to 11, a sentence of the document at a time. */
public final class PageEdgesTest {
    private static final Check CHECK = new Check();
    private static final int NONE = HeadMarks.NONE;
    private static final int OUTSIDE = HeadMarks.OUTSIDE;
    private static final int UNKNOWN = HeadMarks.UNKNOWN;
    private static final int LOWEST = Integer.MIN_VALUE;
    private static final int HIGHEST = Integer.MAX_VALUE;
    private static final int HIGH = 0, OPEN = 1, KEEP = 2, CLEAR = 3, BARE = 4;
    private static final int WHAT_LEFT = 5, WHAT_RIGHT = 6, HOW_LEFT = 7, HOW_RIGHT = 8;
    private static final int TOP = 0, FIRST = 1, LAST = 2;
    private static final String LETTERS = "ABCDEFGHabcdefgh";

    public static void main(String[] args) {
        pagesFromOne();
        leftAndRight();
        lineZeroOnPageOne();
        noLinesNoPages();
        pageHasHighLines();
        breakAhead();
        openZeroOneTwo();
        keepRoom();
        reasonsTogether();
        openTwoBeginsRight();
        openTwoOnlyChapters();
        blankPage();
        marksOfLines();
        inForceTheLast();
        clearEndsSections();
        topOfAPage();
        lastOfAPage();
        firstOfAPage();
        headByWhatAndHow();
        blankHasNoHead();
        bareHeads();
        lineWhats();
        lineUnknown();
        lineOutside();
        pageWhats();
        pageUnknown();
        pageOutside();
        markNone();
        markUnknown();
        markOutside();
        headedPages();
        headedNone();
        headedOutside();
        CHECK.end();
    }

    private static void pagesAre(String want, String text, int... rules) {
        CHECK.same("pages of " + text, Check.pagesOf(Check.reading(text, rules)), want);
    }

    private static void marksAre(String want, String text, int cls, int how, int... rules) {
        CHECK.same("marks of " + text, Check.marksOf(Check.reading(text, rules), cls, how), want);
    }

    private static void headsAre(String want, String text, int... rules) {
        CHECK.same("heads of " + text, Check.headsOf(Check.reading(text, rules)), want);
    }

    /** A text with a break ahead of each line but the first. */
    private static HeadMarks cutEverywhere(String lines, int... rules) {
        HeadMarks x = Check.reading(lines, rules);
        for (int k = 1; k < lines.length(); k++) {
            x.cut(k, 1);
        }
        return x;
    }

    /** The most pages that there can be: 119, each second one of them blank. */
    private static HeadMarks mostPages() {
        return Check.reading("A".repeat(60), OPEN, 2, WHAT_RIGHT, 0);
    }

    // ---- Terms, 2: pages

    private static void pagesFromOne() {
        CHECK.sentence("2: PAGES are numbered from 1 on");
        HeadMarks x = Check.reading("A.....");
        CHECK.due("page(0, 0)", x.page(0, 0), UNKNOWN);
        CHECK.due("page(1, 0)", x.page(1, 0), 5);
        CHECK.due("page(2, 0)", x.page(2, 0), 1);
        CHECK.due("page(3, 0)", x.page(3, 0), UNKNOWN);
        CHECK.same("pages of the lines", Check.linesOf(x, 1), "111112");
    }

    private static void leftAndRight() {
        CHECK.sentence("2: those of even numbers are LEFT, those of odd numbers RIGHT");
        HeadMarks x = cutEverywhere("Aa" + ".".repeat(58));
        CHECK.same("heads", Check.headsOf(x), "-A" + "aA".repeat(29));
        CHECK.same("heads of 119 pages", Check.headsOf(mostPages()), "A-".repeat(59) + "A");
    }

    private static void lineZeroOnPageOne() {
        CHECK.sentence("2: LINE 0 is the first one on PAGE 1");
        for (int open = 0; open <= 2; open++) {
            pagesAre("A", "A", OPEN, open);
            pagesAre("a", "a", OPEN, open);
            pagesAre(".", ".", OPEN, open);
            pagesAre("H", "H", OPEN, open, HIGH, 2, BARE, 1);
            pagesAre("A.", "A.", OPEN, open, KEEP, 0, HIGH, 2);
        }
    }

    private static void noLinesNoPages() {
        CHECK.sentence("2: without LINES there are no PAGES");
        HeadMarks x = Check.reading("A/B", OPEN, 2, BARE, 1);
        CHECK.due("pages with lines", x.count(1), 3);
        x.read();
        for (int what : new int[] {0, 1, 2, 3, 4, 5, 6}) {
            CHECK.due("count(" + what + ")", x.count(what), 0);
        }
        CHECK.due("page(1, 0)", x.page(1, 0), UNKNOWN);
        CHECK.due("mark(1, 0, 0)", x.mark(1, 0, 0), UNKNOWN);
    }

    private static void pageHasHighLines() {
        CHECK.sentence("2: on a new one, if: that one has HIGH LINES already");
        for (int high = 2; high <= 9; high++) {
            String full = ".".repeat(high);
            pagesAre(full, full, HIGH, high);
            pagesAre(full + "|.", full + ".", HIGH, high);
            pagesAre(full + "|" + full, full + full, HIGH, high);
            pagesAre(full + "|" + full + "|.", full + full + ".", HIGH, high);
            CHECK.due("60 lines, HIGH " + high, Check.reading(".".repeat(60), HIGH, high).count(1),
                (60 + high - 1) / high);
        }
    }

    private static void breakAhead() {
        CHECK.sentence("2: or there is a BREAK ahead of it");
        pagesAre(".|.", "./.");
        pagesAre(".|.|.", "././.");
        pagesAre("A|a|.", "A/a/.");
        pagesAre(".....|.", "...../.");
        pagesAre("....|.", "..../.");
        pagesAre("..|.....|.", "../......");
    }

    private static void openZeroOneTwo() {
        CHECK.sentence("2: or it is the title of a CHAPTER, and OPEN is 1 or 2");
        pagesAre(".A.B.", ".A.B.", OPEN, 0);
        pagesAre(".|A.|B.", ".A.B.", OPEN, 1);
        pagesAre(".||A.||B.", ".A.B.", OPEN, 2);
        pagesAre("A|A|A", "AAA", OPEN, 1);
        pagesAre(".a.b.", ".a.b.", OPEN, 1);
        pagesAre(".a.b.", ".a.b.", OPEN, 2);
    }

    private static void keepRoom() {
        CHECK.sentence("2: or it is a title, and that PAGE would have room for fewer LINES than KEEP behind it");
        for (int high = 2; high <= 9; high++) {
            for (int keep = 0; keep <= 2 && keep < high; keep++) {
                for (int ahead = 1; ahead <= high; ahead++) {
                    keepRoom(high, keep, ahead, "A", high - ahead - 1 >= keep);
                    keepRoom(high, keep, ahead, "h", high - ahead - 1 >= keep);
                    keepRoom(high, keep, ahead, "A..", high - ahead - 1 >= keep);
                    keepRoom(high, keep, ahead, ".", ahead < high);
                }
            }
        }
    }

    private static void keepRoom(int high, int keep, int ahead, String then, boolean stays) {
        HeadMarks x = Check.reading(".".repeat(ahead) + then);
        // HIGH 9 in between, so that neither rule is refused for the other.
        x.rule(HIGH, 9);
        x.rule(KEEP, keep);
        x.rule(HIGH, high);
        String call = "HIGH " + high + ", KEEP " + keep + ", " + ahead + " lines, then " + then;
        CHECK.due(call + ": page", x.line(ahead, 1), stays ? 1 : 2);
        CHECK.due(call + ": place", x.line(ahead, 2), stays ? ahead : 0);
    }

    private static void reasonsTogether() {
        CHECK.sentence("2: several reasons are one new PAGE");
        pagesAre("..|A", "../A", HIGH, 2);
        pagesAre("..|A", "../A", HIGH, 2, OPEN, 1);
        pagesAre("..||A", "../A", HIGH, 2, OPEN, 2);
        pagesAre("..|..|A", "..../A", HIGH, 2, OPEN, 2);
        pagesAre("..|a", "../a", HIGH, 2, OPEN, 2);
    }

    private static void openTwoBeginsRight() {
        CHECK.sentence("2: By OPEN 2 a title of a CHAPTER that begins a new PAGE .. begins one that is RIGHT");
        pagesAre(".|.|A", "./.A", OPEN, 2);
        pagesAre(".|.|A||B", "./.AB", OPEN, 2);
        pagesAre("..|..|A", "....A", OPEN, 2, HIGH, 2);
        CHECK.sentence("2: if the next one is LEFT, that one is BLANK, and the LINE is on the one behind it");
        pagesAre(".||A", "./A", OPEN, 2);
        pagesAre("..||A", "..A", OPEN, 2, HIGH, 2);
        pagesAre("....||A", "....A", OPEN, 2);
        pagesAre("A||B||C", "ABC", OPEN, 2);
        pagesAre("A||B.c", "AB.c", OPEN, 2);
        HeadMarks x = Check.reading("AB.c", OPEN, 2);
        CHECK.same("pages of the lines", Check.linesOf(x, 1), "1333");
        CHECK.same("places of the lines", Check.linesOf(x, 2), "0012");
        CHECK.due("the most pages", mostPages().count(1), 119);
        CHECK.due("the last line's page", mostPages().line(59, 1), 119);
    }

    private static void openTwoOnlyChapters() {
        CHECK.sentence("2: others than titles of CHAPTERS begin a LEFT one; so do these by OPEN 0 and 1");
        pagesAre(".|a", "./a", OPEN, 2);
        pagesAre(".|.", "./.", OPEN, 2);
        pagesAre("....|a", "....a", OPEN, 2);
        pagesAre(".....|.", "......", OPEN, 2);
        pagesAre(".|A", "./A", OPEN, 0);
        pagesAre(".|A", "./A", OPEN, 1);
        pagesAre("....|A", "....A", OPEN, 0);
    }

    private static void blankPage() {
        CHECK.sentence("2: BLANK (it has no LINES)");
        HeadMarks x = Check.reading("AaB", OPEN, 2);
        CHECK.due("page(2, 0)", x.page(2, 0), 0);
        CHECK.due("page(2, 1)", x.page(2, 1), NONE);
        CHECK.due("page(2, 2)", x.page(2, 2), NONE);
        CHECK.due("page(2, 3)", x.page(2, 3), 0);
        CHECK.due("it is a page", x.count(1), 3);
        CHECK.due("blank ones", x.count(2), 1);
        x.rule(OPEN, 1);
        CHECK.due("none by OPEN 1", x.count(2), 0);
        CHECK.due("pages by OPEN 1", x.count(1), 2);
    }

    // ---- Terms, 2: marks

    private static void marksOfLines() {
        CHECK.sentence("2: a title of a CHAPTER is a MARK of class 0, one of a SECTION a MARK of class 1");
        for (int i = 0; i < LETTERS.length(); i++) {
            char letter = LETTERS.charAt(i);
            HeadMarks x = Check.reading("" + letter);
            CHECK.due("class 0 of " + letter, x.line(0, 4), i < 8 ? letter : NONE);
            CHECK.due("class 1 of " + letter, x.line(0, 5), i < 8 ? NONE : letter);
            CHECK.due("mark of " + letter, x.mark(1, i < 8 ? 0 : 1, FIRST), letter);
            CHECK.due("no mark of " + letter, x.mark(1, i < 8 ? 1 : 0, FIRST), NONE);
        }
        CHECK.due("a plain line is none", Check.reading(".").line(0, 4), NONE);
        CHECK.due("of either class", Check.reading(".").line(0, 5), NONE);
    }

    private static void inForceTheLast() {
        CHECK.sentence("2: In force of a class is the last MARK of that class that there was");
        HeadMarks x = Check.reading(".A.aBb.cA./d");
        CHECK.same("class 0", Check.linesOf(x, 4), "-AAABBBBAAA");
        CHECK.same("class 1", Check.linesOf(x, 5), "---a-bbc--d");
        CHECK.sentence("2: a title of a SECTION ends nothing of class 0");
        for (int clear = 0; clear <= 1; clear++) {
            CHECK.same("CLEAR " + clear, Check.linesOf(Check.reading("Aab.", CLEAR, clear), 4), "AAAA");
        }
    }

    private static void clearEndsSections() {
        CHECK.sentence("2: by CLEAR 1 a title of a CHAPTER ends what is in force of class 1");
        CHECK.same("CLEAR 1", Check.linesOf(Check.reading("aA.aBb"), 5), "a--a-b");
        CHECK.same("CLEAR 0", Check.linesOf(Check.reading("aA.aBb", CLEAR, 0), 5), "aaaaab");
        CHECK.same("class 0 by CLEAR 1", Check.linesOf(Check.reading("aA.aBb"), 4), "-AAABB");
        CHECK.same("class 0 by CLEAR 0", Check.linesOf(Check.reading("aA.aBb", CLEAR, 0), 4), "-AAABB");
    }

    private static void topOfAPage() {
        CHECK.sentence("2: TOP: what is in force behind all LINES of the PAGES ahead of it (NONE, if nothing)");
        marksAre("-", "Aa", 0, TOP);
        marksAre("-", "Aa", 1, TOP);
        marksAre("-A", "A/B", 0, TOP);
        marksAre("-a", "a/b", 1, TOP);
        marksAre("-BC", "AB/C/.", 0, TOP);
        // What a page's own chapter ends was in force as the page began.
        marksAre("-a-", "Aa/B/.", 1, TOP);
        marksAre("-aa", "Aa/B/.", 1, TOP, CLEAR, 0);
        marksAre("--", "../A", 0, TOP);
        marksAre("-aa-", "AaB/.", 1, TOP, OPEN, 2);
        marksAre("-AAB", "AaB/.", 0, TOP, OPEN, 2);
    }

    private static void lastOfAPage() {
        CHECK.sentence("2: LAST: what is in force behind its own last LINE, too");
        marksAre("A", ".A", 0, LAST);
        marksAre("AC", "A/BC", 0, LAST);
        marksAre("ab", "Aa/.b", 1, LAST);
        marksAre("aa", "Aa/..", 1, LAST);
        marksAre("-", "abB", 1, LAST);
        marksAre("b", "abB", 1, LAST, CLEAR, 0);
        marksAre("-", "..", 0, LAST);
        CHECK.sentence("2: LAST of a BLANK one: TOP");
        marksAre("AAB", "AaB", 0, LAST, OPEN, 2);
        marksAre("aa-", "AaB", 1, LAST, OPEN, 2);
        marksAre("aab", "AaBb", 1, LAST, OPEN, 2);
        marksAre("--A", ".A", 0, LAST, OPEN, 2);
    }

    private static void firstOfAPage() {
        CHECK.sentence("2: FIRST: the first MARK of that class that it has");
        marksAre("A", "ABC", 0, FIRST);
        marksAre("b", "bac", 1, FIRST);
        marksAre("a", "...a", 1, FIRST);
        marksAre("AB", "A/.B", 0, FIRST);
        // It is the first one of the page, though a chapter ends it behind it.
        marksAre("bac", "b/aBd/c", 1, FIRST);
        CHECK.sentence("2: FIRST: if it has none, TOP");
        marksAre("-", "..", 0, FIRST);
        marksAre("aa", "a/..", 1, FIRST);
        marksAre("AB", "AB/..", 0, FIRST);
        marksAre("AA", "A/b", 0, FIRST);
        marksAre("aa-", "a/B./.", 1, FIRST);
        marksAre("AAB", "AaB", 0, FIRST, OPEN, 2);
        marksAre("aaa-", "AaB/.", 1, FIRST, OPEN, 2);
    }

    // ---- Terms, 2: heads

    private static void headByWhatAndHow() {
        CHECK.sentence("2: HEAD: of the class that WHAT of its side tells, by HOW of its side: 0 TOP, 1 FIRST, 2 LAST");
        HeadMarks x = Check.reading("Aa/bBcCd/eDfEg", KEEP, 0, HIGH, 9);
        String[] ofPageTwo = {"ABC", "abd"};
        String[] ofPageThree = {"CDE", "deg"};
        for (int left = 0; left < 6; left++) {
            for (int right = 0; right < 6; right++) {
                x.rule(WHAT_LEFT, left / 3);
                x.rule(HOW_LEFT, left % 3);
                x.rule(WHAT_RIGHT, right / 3);
                x.rule(HOW_RIGHT, right % 3);
                CHECK.due("left " + left, x.page(2, 2), ofPageTwo[left / 3].charAt(left % 3));
                CHECK.due("right " + right, x.page(3, 2), ofPageThree[right / 3].charAt(right % 3));
            }
        }
    }

    private static void blankHasNoHead() {
        CHECK.sentence("2: A BLANK PAGE has no HEAD");
        HeadMarks x = Check.reading("AaB", OPEN, 2, WHAT_RIGHT, 0);
        for (int what = 0; what <= 1; what++) {
            for (int how = 0; how <= 2; how++) {
                x.rule(WHAT_LEFT, what);
                x.rule(HOW_LEFT, how);
                CHECK.due("something is in force", x.mark(2, what, how), what == 0 ? 'A' : 'a');
                CHECK.same("heads", Check.headsOf(x), "A-B");
                CHECK.due("pages with a head", x.count(6), 2);
            }
        }
    }

    private static void bareHeads() {
        CHECK.sentence("2: by BARE 1 neither has one the first LINE of which is the title of a CHAPTER");
        headsAre("AB", "A./B.", WHAT_RIGHT, 0);
        headsAre("--", "A./B.", WHAT_RIGHT, 0, BARE, 1);
        headsAre("-A", "A./.B", WHAT_RIGHT, 0, BARE, 1, HOW_LEFT, TOP);
        headsAre("-B", "A./.B", WHAT_RIGHT, 0, BARE, 1);
        headsAre("B", "aB", WHAT_RIGHT, 0, BARE, 1);
        headsAre("B", ".B", WHAT_RIGHT, 0, BARE, 1);
        headsAre("ab", "a/b", WHAT_LEFT, 1, BARE, 1);
        headsAre("---", "AaB", OPEN, 2, BARE, 1);
        CHECK.due("first line a title of a chapter, H", Check.reading("Ha", BARE, 1).page(1, 2), NONE);
        CHECK.due("a mark is told all the same", Check.reading("Ha", BARE, 1).mark(1, 0, LAST), 'H');
    }

    // ---- Promises 8 to 11

    private static void lineWhats() {
        CHECK.sentence("promise 8: its title (0; NONE: it is a plain one)");
        HeadMarks x = Check.reading(LETTERS + ".");
        CHECK.same("titles", Check.linesOf(x, 0), LETTERS + "-");
        CHECK.sentence("promise 8: its PAGE (1), its place on it, from 0 on (2)");
        HeadMarks nine = Check.reading(".".repeat(19), HIGH, 9);
        CHECK.same("pages", Check.linesOf(nine, 1), "1111111112222222223");
        CHECK.same("places", Check.linesOf(nine, 2), "0123456780123456780");
        CHECK.sentence("promise 8: whether a BREAK is ahead of it (3: 1, 0)");
        HeadMarks y = Check.reading("...../.A/b", OPEN, 1);
        CHECK.same("a new page alone is no break", Check.linesOf(y, 3), "00000101");
        CHECK.sentence("promise 8: what is in force of class 0 behind it (4; NONE), of class 1 (5; NONE)");
        HeadMarks z = Check.reading(".aB.c");
        CHECK.same("class 0", Check.linesOf(z, 4), "--BBB");
        CHECK.same("class 1", Check.linesOf(z, 5), "-a--c");
        CHECK.due("the last of 60 lines", Check.reading("A" + ".".repeat(59)).line(59, 4), 'A');
        CHECK.due("its place", Check.reading("A" + ".".repeat(59)).line(59, 2), 4);
    }

    private static void lineUnknown() {
        CHECK.sentence("promise 8: UNKNOWN");
        HeadMarks x = Check.reading("A./b");
        HeadMarks none = new HeadMarks();
        HeadMarks most = Check.reading(".".repeat(60));
        for (int what = 0; what <= 5; what++) {
            for (int line : new int[] {-1, 3, 60, LOWEST, HIGHEST}) {
                CHECK.due("line(" + line + ", " + what + ")", x.line(line, what), UNKNOWN);
                CHECK.due("no lines: line(" + line + ", " + what + ")", none.line(line, what), UNKNOWN);
            }
            CHECK.due("no lines: line(0, " + what + ")", none.line(0, what), UNKNOWN);
            CHECK.due("60 lines: line(60, " + what + ")", most.line(60, what), UNKNOWN);
            CHECK.holds("60 lines: line(59, " + what + ")", most.line(59, what) != UNKNOWN);
        }
        CHECK.sentence("promise 8: UNKNOWN ahead of OUTSIDE");
        for (int line : new int[] {-1, 3, LOWEST, HIGHEST}) {
            CHECK.due("line(" + line + ", 6)", x.line(line, 6), UNKNOWN);
            CHECK.due("line(" + line + ", -1)", x.line(line, -1), UNKNOWN);
        }
    }

    private static void lineOutside() {
        CHECK.sentence("promise 8: OUTSIDE");
        HeadMarks x = Check.reading("A./b");
        for (int what : new int[] {-1, 6, 7, -6, LOWEST, HIGHEST, 256}) {
            for (int line = 0; line <= 2; line++) {
                CHECK.due("line(" + line + ", " + what + ")", x.line(line, what), OUTSIDE);
            }
        }
    }

    private static void pageWhats() {
        CHECK.sentence("promise 9: how many LINES (0), the number of its first one (1; NONE: it is BLANK)");
        HeadMarks x = Check.reading("A.........B", HIGH, 9, OPEN, 2, WHAT_RIGHT, 0);
        CHECK.same("pages", Check.pagesOf(x), "A........|.|B");
        CHECK.due("page(1, 0), HIGH 9", x.page(1, 0), 9);
        CHECK.due("page(1, 1), 0 is a line", x.page(1, 1), 0);
        CHECK.due("page(2, 0)", x.page(2, 0), 1);
        CHECK.due("page(2, 1)", x.page(2, 1), 9);
        CHECK.due("page(3, 1)", x.page(3, 1), 10);
        HeadMarks most = mostPages();
        for (int page = 1; page <= 119; page++) {
            CHECK.due("lines of " + page, most.page(page, 0), page % 2);
            CHECK.due("first of " + page, most.page(page, 1), page % 2 == 1 ? page / 2 : NONE);
        }
        CHECK.sentence("promise 9: its HEAD (2; NONE: it has none, or nothing is in force)");
        CHECK.due("a head", x.page(1, 2), 'A');
        CHECK.due("nothing is in force", Check.reading("..").page(1, 2), NONE);
        CHECK.due("nothing of that class", Check.reading("A.").page(1, 2), NONE);
        CHECK.due("none by BARE", Check.reading("Aa", BARE, 1).page(1, 2), NONE);
        CHECK.due("none, being BLANK", most.page(2, 2), NONE);
        CHECK.sentence("promise 9: whether it is SHARED (3: 1, 0)");
        CHECK.due("shared", Check.reading("AB").page(1, 3), 1);
        CHECK.due("not shared", Check.reading("A.").page(1, 3), 0);
    }

    private static void pageUnknown() {
        CHECK.sentence("promise 9: UNKNOWN");
        HeadMarks x = Check.reading("A/.");
        HeadMarks none = new HeadMarks();
        HeadMarks most = mostPages();
        for (int what = 0; what <= 3; what++) {
            for (int page : new int[] {0, -1, 3, 119, 120, LOWEST, HIGHEST}) {
                CHECK.due("page(" + page + ", " + what + ")", x.page(page, what), UNKNOWN);
                CHECK.due("no lines: page(" + page + ", " + what + ")", none.page(page, what), UNKNOWN);
            }
            CHECK.due("no lines: page(1, " + what + ")", none.page(1, what), UNKNOWN);
            CHECK.due("119 pages: page(120, " + what + ")", most.page(120, what), UNKNOWN);
            CHECK.holds("119 pages: page(119, " + what + ")", most.page(119, what) != UNKNOWN);
        }
        CHECK.sentence("promise 9: UNKNOWN ahead of OUTSIDE");
        for (int page : new int[] {0, -1, 3, LOWEST, HIGHEST}) {
            CHECK.due("page(" + page + ", 4)", x.page(page, 4), UNKNOWN);
            CHECK.due("page(" + page + ", -1)", x.page(page, -1), UNKNOWN);
        }
    }

    private static void pageOutside() {
        CHECK.sentence("promise 9: OUTSIDE");
        HeadMarks x = Check.reading("AB", OPEN, 2);
        for (int what : new int[] {-1, 4, 5, -6, LOWEST, HIGHEST, 256}) {
            for (int page = 1; page <= 3; page++) {
                CHECK.due("page(" + page + ", " + what + ")", x.page(page, what), OUTSIDE);
            }
        }
    }

    private static void markNone() {
        CHECK.sentence("promise 10: TOP (0), FIRST (1), LAST (2) of a PAGE, of a class; NONE");
        HeadMarks x = Check.reading("Aa/bBcCd", KEEP, 0);
        String[] due = {"ABC", "abd"};
        for (int how = 0; how <= 2; how++) {
            for (int cls = 0; cls <= 1; cls++) {
                CHECK.due("mark(2, " + cls + ", " + how + ")", x.mark(2, cls, how), due[cls].charAt(how));
                CHECK.due("nothing", Check.reading(".").mark(1, cls, how), NONE);
            }
        }
        CHECK.due("the last of 119 pages", mostPages().mark(119, 0, LAST), 'A');
    }

    private static void markUnknown() {
        CHECK.sentence("promise 10: UNKNOWN");
        HeadMarks x = Check.reading("A/.");
        HeadMarks none = new HeadMarks();
        for (int page : new int[] {0, -1, 3, 120, LOWEST, HIGHEST}) {
            for (int cls = 0; cls <= 1; cls++) {
                for (int how = 0; how <= 2; how++) {
                    CHECK.due("mark(" + page + ", " + cls + ", " + how + ")", x.mark(page, cls, how), UNKNOWN);
                    CHECK.due("no lines: mark(" + page + ")", none.mark(page, cls, how), UNKNOWN);
                }
            }
        }
        CHECK.due("no lines: mark(1, 0, 0)", none.mark(1, 0, 0), UNKNOWN);
        CHECK.due("119 pages: mark(120, 0, 0)", mostPages().mark(120, 0, 0), UNKNOWN);
        CHECK.sentence("promise 10: UNKNOWN ahead of OUTSIDE");
        for (int page : new int[] {0, -1, 3, LOWEST, HIGHEST}) {
            CHECK.due("mark(" + page + ", 2, 0)", x.mark(page, 2, 0), UNKNOWN);
            CHECK.due("mark(" + page + ", 0, 3)", x.mark(page, 0, 3), UNKNOWN);
            CHECK.due("mark(" + page + ", -1, -1)", x.mark(page, -1, -1), UNKNOWN);
        }
    }

    private static void markOutside() {
        CHECK.sentence("promise 10: OUTSIDE: the class, how");
        HeadMarks x = Check.reading("AB", OPEN, 2);
        for (int page = 1; page <= 3; page++) {
            for (int cls : new int[] {-1, 2, 3, LOWEST, HIGHEST}) {
                for (int how = 0; how <= 2; how++) {
                    CHECK.due("mark(" + page + ", " + cls + ", " + how + ")", x.mark(page, cls, how), OUTSIDE);
                }
            }
            for (int how : new int[] {-1, 3, 4, LOWEST, HIGHEST}) {
                for (int cls = -1; cls <= 2; cls++) {
                    CHECK.due("mark(" + page + ", " + cls + ", " + how + ")", x.mark(page, cls, how), OUTSIDE);
                }
            }
        }
    }

    private static void headedPages() {
        CHECK.sentence("promise 11: The i-th PAGE, from 0 on, whose HEAD is a letter; i = -1: how many there are");
        HeadMarks x = cutEverywhere("A..B.A", WHAT_RIGHT, 0);
        CHECK.same("heads", Check.headsOf(x), "AAABBA");
        int[] ofA = {1, 2, 3, 6};
        for (int i = 0; i < ofA.length; i++) {
            CHECK.due("headed(A, " + i + ")", x.headed('A', i), ofA[i]);
        }
        CHECK.due("headed(A, -1)", x.headed('A', -1), 4);
        CHECK.due("headed(B, -1)", x.headed('B', -1), 2);
        CHECK.due("headed(B, 1)", x.headed('B', 1), 5);
        HeadMarks sixty = cutEverywhere("h" + ".".repeat(59), WHAT_LEFT, 1);
        CHECK.due("60 pages: headed(h, -1)", sixty.headed('h', -1), 60);
        CHECK.due("60 pages: headed(h, 59)", sixty.headed('h', 59), 60);
        CHECK.due("60 pages: headed(h, 60)", sixty.headed('h', 60), NONE);
        CHECK.due("119 pages: headed(A, -1), no blank one", mostPages().headed('A', -1), 60);
        CHECK.due("119 pages: headed(A, 59)", mostPages().headed('A', 59), 119);
        CHECK.due("bare pages are none", Check.reading("A./B.", WHAT_RIGHT, 0, BARE, 1).headed('A', -1), 0);
    }

    private static void headedNone() {
        CHECK.sentence("promise 11: NONE: there is none such (i below -1, too)");
        HeadMarks x = Check.reading("A/.", WHAT_RIGHT, 0);
        for (int i : new int[] {2, 3, -2, -3, -6, LOWEST, HIGHEST}) {
            CHECK.due("headed(A, " + i + ")", x.headed('A', i), NONE);
            CHECK.due("headed(H, " + i + ")", x.headed('H', i), NONE);
            CHECK.due("no lines: headed(A, " + i + ")", new HeadMarks().headed('A', i), NONE);
        }
        CHECK.due("headed(H, 0)", x.headed('H', 0), NONE);
        CHECK.due("headed(H, -1) is a number", x.headed('H', -1), 0);
        CHECK.due("no lines: headed(A, 0)", new HeadMarks().headed('A', 0), NONE);
        CHECK.due("no lines: headed(A, -1)", new HeadMarks().headed('A', -1), 0);
    }

    private static void headedOutside() {
        CHECK.sentence("promise 11: OUTSIDE: the letter is not one of a title");
        HeadMarks x = Check.reading("A/.", WHAT_RIGHT, 0);
        for (int letter = -10; letter <= 300; letter++) {
            boolean isTitle = letter > 0 && letter < 128 && LETTERS.indexOf(letter) >= 0;
            CHECK.due("headed(" + letter + ", -1)", x.headed(letter, -1), !isTitle ? OUTSIDE : letter == 'A' ? 2 : 0);
        }
        for (int letter : new int[] {LOWEST, HIGHEST, 65536 + 'A', '@', 'I', '`', 'i', '.', '/', NONE}) {
            CHECK.due("OUTSIDE, not NONE: headed(" + letter + ", -2)", x.headed(letter, -2), OUTSIDE);
            CHECK.due("OUTSIDE, not NONE: headed(" + letter + ", 0)", x.headed(letter, 0), OUTSIDE);
        }
    }
}
