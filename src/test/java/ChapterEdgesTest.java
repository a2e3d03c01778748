/** The boundary cases of "Terms" 3 and of the promises 12 to 15, a sentence of the document at a time. */
public final class ChapterEdgesTest {
    private static final Check CHECK = new Check();
    private static final int NONE = HeadMarks.NONE;
    private static final int OUTSIDE = HeadMarks.OUTSIDE;
    private static final int UNKNOWN = HeadMarks.UNKNOWN;
    private static final int LOWEST = Integer.MIN_VALUE;
    private static final int HIGHEST = Integer.MAX_VALUE;
    private static final int HIGH = 0, OPEN = 1, KEEP = 2, BARE = 4;
    private static final int WHAT_LEFT = 5, WHAT_RIGHT = 6, HOW_LEFT = 7, HOW_RIGHT = 8;

    public static void main(String[] args) {
        chapterOfLines();
        chaptersFromZero();
        linesOfNoChapter();
        pagesOfAChapter();
        sharedPages();
        changedByABreakThatComes();
        changedByABreakThatGoes();
        changedByNumbers();
        changedAsNone();
        changedByPagesThatAreNot();
        changedByLetters();
        changedByBlankAndBare();
        chapterWhats();
        chapterNone();
        chapterOutside();
        changedLeastAndLast();
        changedUnknown();
        changedChangesNothing();
        worstLine();
        worstOfSeveral();
        worstOfFewLines();
        worstOutside();
        fitLeastHigh();
        fitAboveKeep();
        fitAllElseAsItIs();
        fitNone();
        fitNumbers();
        CHECK.end();
    }

    /** All that chapter tells of one. */
    private static void chapterIs(HeadMarks x, int k, int... want) {
        for (int what = 0; what <= 4; what++) {
            CHECK.due("chapter(" + k + ", " + what + ")", x.chapter(k, what), want[what]);
        }
    }

    private static void sharedAre(String want, String text, int... rules) {
        HeadMarks x = Check.reading(text, rules);
        CHECK.same("shared pages of " + text, Check.sharedOf(x), want);
        CHECK.due("count of them", x.count(5), want.replace("0", "").length());
    }

    /** What changed tells of each line from 1 on, as digits. */
    private static String changedOf(HeadMarks x) {
        StringBuilder all = new StringBuilder();
        for (int k = 1, lines = x.count(0); k < lines; k++) {
            all.append(x.changed(k));
        }
        return all.toString();
    }

    private static void changedAre(String want, String text, int... rules) {
        CHECK.same("changed of " + text, changedOf(Check.reading(text, rules)), want);
    }

    // ---- Terms, 3

    private static void chapterOfLines() {
        CHECK.sentence("3: A CHAPTER: a title of one, and all LINES behind it up to the next such title");
        HeadMarks x = Check.reading("A.aB/bC..");
        chapterIs(x, 0, 'A', 1, 1, 3, 1);
        chapterIs(x, 1, 'B', 1, 2, 2, 1);
        chapterIs(x, 2, 'C', 2, 2, 3, 0);
        CHECK.due("the last one has all lines up to the end",
            Check.reading("A" + ".".repeat(59)).chapter(0, 3), 60);
        HeadMarks titles = Check.reading("ABC");
        chapterIs(titles, 0, 'A', 1, 1, 1, 0);
        chapterIs(titles, 1, 'B', 1, 1, 1, 0);
        chapterIs(titles, 2, 'C', 1, 1, 1, 0);
        CHECK.due("a title alone", Check.reading(".".repeat(59) + "A").chapter(0, 3), 1);
    }

    private static void chaptersFromZero() {
        CHECK.sentence("3: CHAPTERS are numbered from 0 on as they come");
        HeadMarks x = Check.reading("BAB");
        CHECK.due("chapter(-1, 0)", x.chapter(-1, 0), NONE);
        CHECK.due("chapter(0, 0)", x.chapter(0, 0), 'B');
        CHECK.due("chapter(1, 0)", x.chapter(1, 0), 'A');
        CHECK.due("chapter(2, 0)", x.chapter(2, 0), 'B');
        CHECK.due("chapter(3, 0)", x.chapter(3, 0), NONE);
        HeadMarks most = Check.reading("ABCDEFGH".repeat(7) + "ABCD");
        CHECK.due("60 chapters", most.count(4), 60);
        CHECK.due("chapter(59, 0)", most.chapter(59, 0), 'D');
        CHECK.due("chapter(60, 0)", most.chapter(60, 0), NONE);
    }

    private static void linesOfNoChapter() {
        CHECK.sentence("3: LINES ahead of the first title are of none");
        HeadMarks x = Check.reading("a.b/.C");
        CHECK.due("chapters", x.count(4), 1);
        chapterIs(x, 0, 'C', 2, 2, 1, 0);
        CHECK.due("a section is no chapter", Check.reading("ab.").count(4), 0);
        CHECK.due("none to ask for", Check.reading("ab.").chapter(0, 0), NONE);
    }

    private static void pagesOfAChapter() {
        CHECK.sentence("3: PAGES of a CHAPTER: from that of its title to that of its last LINE");
        HeadMarks x = Check.reading("..A......./.B");
        CHECK.same("pages", Check.pagesOf(x), "..A..|.....|.B");
        chapterIs(x, 0, 'A', 1, 3, 9, 0);
        chapterIs(x, 1, 'B', 3, 3, 1, 0);
        CHECK.sentence("3: a BLANK PAGE behind its last LINE is none of its PAGES");
        HeadMarks blank = Check.reading("A.B./.C", OPEN, 2);
        CHECK.same("pages", Check.pagesOf(blank), "A.||B.|.|C");
        chapterIs(blank, 0, 'A', 1, 1, 2, 0);
        chapterIs(blank, 1, 'B', 3, 4, 3, 0);
        chapterIs(blank, 2, 'C', 5, 5, 1, 0);
        HeadMarks most = Check.reading("A".repeat(60), OPEN, 2);
        chapterIs(most, 59, 'A', 119, 119, 1, 0);
    }

    private static void sharedPages() {
        CHECK.sentence("3: A PAGE is SHARED, if LINES of two CHAPTERS or more are on it");
        sharedAre("1", "AB");
        sharedAre("1", "ABC");
        sharedAre("1", "AA");
        sharedAre("0", "A.a.");
        sharedAre("01", "A..../.B");
        sharedAre("00", "A..../B");
        sharedAre("10", "AB/C");
        sharedAre("1".repeat(30), "A".repeat(60), KEEP, 0, HIGH, 2);
        CHECK.sentence("3: LINES of none make no PAGE SHARED");
        sharedAre("0", ".A");
        sharedAre("0", "ab");
        sharedAre("0", "..");
        sharedAre("1", ".AB");
        CHECK.sentence("3: a BLANK PAGE is not SHARED");
        sharedAre("000", "AB", OPEN, 2);
        sharedAre("", "");
    }

    private static void changedByABreakThatComes() {
        CHECK.sentence("3: CHANGED by LINE k ..: else one comes");
        // "A.ab." is headed by b; then page 1 by what its lines leave, page 2 by FIRST of class 0: A.
        changedAre("2221", "A.ab.");
        // "..A" by class 0, LAST: page 1 loses its A, page 2 comes with it.
        changedAre("22", "..A", WHAT_RIGHT, 0);
        // Chapters open pages anyway.
        changedAre("000", "ABCD", OPEN, 1);
        // Where a page is full anyway.
        CHECK.due("at a full page", Check.reading("A.a..b").changed(5), 0);
    }

    private static void changedByABreakThatGoes() {
        CHECK.sentence("3: CHANGED by LINE k ..: the BREAK ahead of it goes, if there is one");
        HeadMarks x = Check.reading("A/B", WHAT_RIGHT, 0);
        CHECK.due("page 1 is B's then, page 2 is not", x.changed(1), 2);
        HeadMarks y = Check.reading("A/.", WHAT_RIGHT, 0);
        CHECK.due("page 2 is not then", y.changed(1), 1);
        HeadMarks z = Check.reading("A/B", WHAT_RIGHT, 0, OPEN, 1);
        CHECK.due("a chapter opens a page all the same", z.changed(1), 0);
        HeadMarks full = Check.reading("A..../.");
        CHECK.due("a full page all the same", full.changed(5), 0);
    }

    private static void changedByNumbers() {
        CHECK.sentence("3: how many PAGES, by their numbers");
        // Heads A B C D now; with the first break gone B C D, so that each number has another head.
        HeadMarks x = Check.reading("A/B/C/D", WHAT_RIGHT, 0, HOW_LEFT, 2);
        CHECK.same("heads", Check.headsOf(x), "ABCD");
        CHECK.due("changed(1)", x.changed(1), 4);
        CHECK.due("changed(2)", x.changed(2), 3);
        CHECK.due("changed(3)", x.changed(3), 2);
    }

    private static void changedAsNone() {
        CHECK.sentence("3: one for which nothing is in force is as none");
        changedAre("00000", "......");
        changedAre("000", "A...", WHAT_LEFT, 1);
        // Page 1 is bare, now and then; page 2 comes, but nothing of class 1 is in force on it.
        changedAre("0", "A.", BARE, 1, WHAT_LEFT, 1);
        // Page 2 is bare now; then page 1 has its lines, and nothing is in force at its top.
        HeadMarks x = Check.reading("./A", WHAT_RIGHT, 0, HOW_RIGHT, 0, HOW_LEFT, 0, BARE, 1);
        CHECK.due("bare or nothing", x.changed(1), 0);
    }

    private static void changedByPagesThatAreNot() {
        CHECK.sentence("3: so is that of a PAGE that there is not");
        // A page without a head comes or goes: no change.
        HeadMarks comes = Check.reading("..");
        CHECK.due("a page without a head comes", comes.changed(1), 0);
        HeadMarks goes = Check.reading("./.");
        CHECK.due("a page without a head goes", goes.changed(1), 0);
        HeadMarks headComes = Check.reading("a.", WHAT_LEFT, 1);
        CHECK.due("a page with a head comes", headComes.changed(1), 1);
        HeadMarks headGoes = Check.reading("a/.", WHAT_LEFT, 1);
        CHECK.due("a page with a head goes", headGoes.changed(1), 1);
    }

    private static void changedByLetters() {
        CHECK.sentence("3: another HEAD; Titles are told by the codes of their letters");
        changedAre("111", "A.A.", WHAT_RIGHT, 0);
        changedAre("221", "A.B.", WHAT_RIGHT, 0);
    }

    private static void changedByBlankAndBare() {
        CHECK.sentence("3: a HEAD against a PAGE that is BLANK, or bare");
        // ". | a | B" with heads - - B by OPEN 2, now ". a || B".
        HeadMarks x = Check.reading(".aB", OPEN, 2, WHAT_RIGHT, 0, WHAT_LEFT, 1);
        CHECK.same("pages", Check.pagesOf(x), ".a||B");
        CHECK.due("a head comes in place of a blank page", x.changed(1), 1);
        CHECK.due("a break where a blank page is", x.changed(2), 0);
        HeadMarks bare = Check.reading(".A", WHAT_RIGHT, 0, BARE, 1);
        CHECK.due("page 1 loses its head, page 2 is bare", bare.changed(1), 1);
    }

    // ---- Promises 12 to 15

    private static void chapterWhats() {
        CHECK.sentence("promise 12: its title (0), the first of its PAGES (1), the last one (2), LINES (3), SECTIONS (4)");
        HeadMarks x = Check.reading("a/Hbc.d....h/Ae");
        CHECK.same("pages", Check.pagesOf(x), "a|Hbc.|d....|h|Ae");
        chapterIs(x, 0, 'H', 2, 4, 10, 4);
        chapterIs(x, 1, 'A', 5, 5, 2, 1);
        chapterIs(Check.reading("A" + "a".repeat(59)), 0, 'A', 1, 15, 60, 59);
        chapterIs(Check.reading("A"), 0, 'A', 1, 1, 1, 0);
    }

    private static void chapterNone() {
        CHECK.sentence("promise 12: NONE: there is no such CHAPTER (k below 0, too)");
        HeadMarks x = Check.reading("a.A.B");
        for (int k : new int[] {-1, -2, 2, 3, 60, LOWEST, HIGHEST}) {
            for (int what = 0; what <= 4; what++) {
                CHECK.due("chapter(" + k + ", " + what + ")", x.chapter(k, what), NONE);
                CHECK.due("no lines: chapter(" + k + ", " + what + ")", new HeadMarks().chapter(k, what), NONE);
            }
        }
        for (int what = 0; what <= 4; what++) {
            CHECK.due("no lines: chapter(0, " + what + ")", new HeadMarks().chapter(0, what), NONE);
            CHECK.due("no chapters: chapter(0, " + what + ")", Check.reading("a..").chapter(0, what), NONE);
        }
    }

    private static void chapterOutside() {
        CHECK.sentence("promise 12: OUTSIDE: what");
        HeadMarks x = Check.reading("A.B");
        for (int what : new int[] {-1, 5, 6, -6, LOWEST, HIGHEST, 256}) {
            CHECK.due("chapter(0, " + what + ")", x.chapter(0, what), OUTSIDE);
            CHECK.due("chapter(1, " + what + ")", x.chapter(1, what), OUTSIDE);
        }
        CHECK.sentence("promise 12: OUTSIDE, not NONE");
        for (int what : new int[] {-1, 5, LOWEST, HIGHEST}) {
            CHECK.due("chapter(-1, " + what + ")", x.chapter(-1, what), OUTSIDE);
            CHECK.due("chapter(2, " + what + ")", x.chapter(2, what), OUTSIDE);
            CHECK.due("no lines: chapter(0, " + what + ")", new HeadMarks().chapter(0, what), OUTSIDE);
        }
    }

    private static void changedLeastAndLast() {
        CHECK.sentence("promise 13: CHANGED by a LINE, k being 1 or more");
        HeadMarks x = Check.reading("h" + ".".repeat(59), WHAT_LEFT, 1);
        CHECK.due("pages", x.count(1), 12);
        CHECK.due("changed(1), the least: a page more", x.changed(1), 1);
        CHECK.due("changed(5), where a page begins", x.changed(5), 0);
        CHECK.due("changed(59), the last: a page more", x.changed(59), 1);
        HeadMarks two = Check.reading("aa", WHAT_LEFT, 1);
        CHECK.due("two lines", two.changed(1), 1);
    }

    private static void changedUnknown() {
        CHECK.sentence("promise 13: UNKNOWN: also LINE 0");
        HeadMarks x = Check.reading("A.a");
        for (int line : new int[] {0, -1, 3, 4, 60, LOWEST, HIGHEST}) {
            CHECK.due("changed(" + line + ")", x.changed(line), UNKNOWN);
            CHECK.due("no lines: changed(" + line + ")", new HeadMarks().changed(line), UNKNOWN);
        }
        CHECK.due("one line: changed(0)", Check.reading("A").changed(0), UNKNOWN);
        CHECK.due("one line: changed(1)", Check.reading("A").changed(1), UNKNOWN);
        CHECK.due("no lines: changed(1)", new HeadMarks().changed(1), UNKNOWN);
        CHECK.due("60 lines: changed(60)", Check.reading("A".repeat(60)).changed(60), UNKNOWN);
    }

    private static void changedChangesNothing() {
        CHECK.sentence("promise 13: it is asked, not done");
        HeadMarks x = Check.reading("A.a/b.B", OPEN, 2, WHAT_RIGHT, 0);
        String before = Check.stateOf(x) + Check.pagesOf(x) + Check.headsOf(x);
        String once = changedOf(x);
        CHECK.same("the same again", changedOf(x), once);
        CHECK.same("state", Check.stateOf(x) + Check.pagesOf(x) + Check.headsOf(x), before);
        for (int k = 1; k < 6; k++) {
            String heads = Check.headsOf(x);
            int changed = x.changed(k);
            int was = x.line(k, 3);
            x.cut(k, 1 - was);
            CHECK.due("as by cut(" + k + ")", changed, otherSigns(heads, Check.headsOf(x)));
            x.cut(k, was);
        }
    }

    /** At how many places two rows of heads are not the same, - being as nothing. */
    private static int otherSigns(String a, String b) {
        int n = 0;
        for (int i = 0; i < Math.max(a.length(), b.length()); i++) {
            char inA = i < a.length() ? a.charAt(i) : '-';
            char inB = i < b.length() ? b.charAt(i) : '-';
            n += inA == inB ? 0 : 1;
        }
        return n;
    }

    private static void worstLine() {
        CHECK.sentence("promise 14: The LINE by which most PAGES are CHANGED (0), how many these are (1)");
        HeadMarks x = Check.reading("A/B/C/D", WHAT_RIGHT, 0, HOW_LEFT, 2);
        CHECK.due("the first: worst(0)", x.worst(0), 1);
        CHECK.due("the first: worst(1)", x.worst(1), 4);
        HeadMarks last = Check.reading("ABc", OPEN, 1);
        CHECK.same("changed", changedOf(last), "01");
        CHECK.due("the last: worst(0)", last.worst(0), 2);
        CHECK.due("the last: worst(1)", last.worst(1), 1);
        HeadMarks two = Check.reading("a.", WHAT_LEFT, 1);
        CHECK.due("two lines: worst(0)", two.worst(0), 1);
        CHECK.due("two lines: worst(1)", two.worst(1), 1);
    }

    private static void worstOfSeveral() {
        CHECK.sentence("promise 14: of several the least");
        HeadMarks x = Check.reading("..A", WHAT_RIGHT, 0);
        CHECK.same("changed", changedOf(x), "22");
        CHECK.due("worst(0)", x.worst(0), 1);
        CHECK.due("worst(1)", x.worst(1), 2);
        HeadMarks later = Check.reading("AB..", OPEN, 1, WHAT_RIGHT, 0);
        CHECK.same("changed", changedOf(later), "011");
        CHECK.due("later: worst(0)", later.worst(0), 2);
        CHECK.due("later: worst(1)", later.worst(1), 1);
        HeadMarks none = Check.reading("......");
        CHECK.due("none is changed by any: worst(0)", none.worst(0), 1);
        CHECK.due("none is changed by any: worst(1)", none.worst(1), 0);
        HeadMarks most = Check.reading("A".repeat(60), OPEN, 2);
        CHECK.due("60 lines: worst(0)", most.worst(0), 1);
        CHECK.due("60 lines: worst(1)", most.worst(1), 0);
    }

    private static void worstOfFewLines() {
        CHECK.sentence("promise 14: NONE: there are fewer than two LINES; 0 likewise");
        for (HeadMarks x : new HeadMarks[] {new HeadMarks(), Check.reading("A"), Check.reading(".")}) {
            CHECK.due("worst(0)", x.worst(0), NONE);
            CHECK.due("worst(1)", x.worst(1), 0);
        }
        CHECK.due("two lines", Check.reading("..").worst(0), 1);
    }

    private static void worstOutside() {
        CHECK.sentence("promise 14: OUTSIDE");
        HeadMarks x = Check.reading("A.a");
        for (int what : new int[] {-1, 2, 3, -6, LOWEST, HIGHEST, 256}) {
            CHECK.due("worst(" + what + ")", x.worst(what), OUTSIDE);
            CHECK.due("OUTSIDE, not NONE: worst(" + what + ")", new HeadMarks().worst(what), OUTSIDE);
            CHECK.due("one line: worst(" + what + ")", Check.reading("A").worst(what), OUTSIDE);
        }
    }

    private static void fitLeastHigh() {
        CHECK.sentence("promise 15: The least HIGH, .. 2 to 9, .. by which there are n PAGES at most");
        for (int lines = 1; lines <= 9; lines++) {
            HeadMarks x = Check.reading(".".repeat(lines));
            CHECK.due(lines + " lines: fit(1)", x.fit(1), Math.max(lines, 2));
        }
        HeadMarks x = Check.reading(".".repeat(18));
        int[] least = {NONE, NONE, 9, 6, 5, 4, 3, 3, 3, 2, 2};
        for (int n = 0; n < least.length; n++) {
            CHECK.due("18 lines: fit(" + n + ")", x.fit(n), least[n]);
        }
        CHECK.due("60 lines: fit(30)", Check.reading(".".repeat(60)).fit(30), 2);
        CHECK.due("60 lines: fit(29)", Check.reading(".".repeat(60)).fit(29), 3);
        CHECK.due("60 lines: fit(7)", Check.reading(".".repeat(60)).fit(7), 9);
        CHECK.due("60 lines: fit(6)", Check.reading(".".repeat(60)).fit(6), NONE);
    }

    private static void fitAboveKeep() {
        CHECK.sentence("promise 15: HIGH, above KEEP");
        HeadMarks x = Check.reading(".");
        int[] least = {2, 2, 3};
        for (int keep = 0; keep <= 2; keep++) {
            x.rule(KEEP, keep);
            CHECK.due("KEEP " + keep + ": fit(1)", x.fit(1), least[keep]);
            CHECK.due("KEEP " + keep + ": fit(99)", x.fit(99), least[keep]);
        }
    }

    private static void fitAllElseAsItIs() {
        CHECK.sentence("promise 15: all else as it is");
        HeadMarks x = Check.reading("./.A.");
        CHECK.due("a break: fit(2)", x.fit(2), 3);
        CHECK.due("a break: fit(1)", x.fit(1), NONE);
        x.rule(OPEN, 1);
        CHECK.due("OPEN 1: fit(3)", x.fit(3), 2);
        CHECK.due("OPEN 1: fit(2)", x.fit(2), NONE);
        HeadMarks y = Check.reading("...A", KEEP, 0);
        CHECK.due("KEEP 0: fit(1)", y.fit(1), 4);
        y.rule(KEEP, 1);
        CHECK.due("KEEP 1: fit(1)", y.fit(1), 5);
        y.rule(KEEP, 2);
        CHECK.due("KEEP 2: fit(1)", y.fit(1), 6);
        HeadMarks z = Check.reading("AB", OPEN, 2);
        CHECK.due("OPEN 2, a blank page: fit(3)", z.fit(3), 2);
        CHECK.due("OPEN 2, a blank page: fit(2)", z.fit(2), NONE);
        CHECK.sentence("promise 15: Nothing changes");
        String before = Check.stateOf(x) + Check.pagesOf(x) + Check.headsOf(x);
        for (int n = 0; n <= 9; n++) {
            x.fit(n);
        }
        CHECK.same("state", Check.stateOf(x) + Check.pagesOf(x) + Check.headsOf(x), before);
        CHECK.due("HIGH", x.count(10), 5);
    }

    private static void fitNone() {
        CHECK.sentence("promise 15: NONE: there is none");
        CHECK.due("10 lines: fit(1)", Check.reading(".".repeat(10)).fit(1), NONE);
        CHECK.due("one line: fit(0)", Check.reading(".").fit(0), NONE);
        CHECK.due("no lines: fit(0)", new HeadMarks().fit(0), 2);
        CHECK.due("no lines: fit(99)", new HeadMarks().fit(99), 2);
        HeadMarks keep = new HeadMarks();
        keep.rule(KEEP, 2);
        CHECK.due("no lines, KEEP 2: fit(0)", keep.fit(0), 3);
        CHECK.due("99 pages: fit(99)", Check.reading("A".repeat(50), OPEN, 2).fit(99), 2);
        CHECK.due("99 pages: fit(98)", Check.reading("A".repeat(50), OPEN, 2).fit(98), NONE);
        CHECK.due("100 pages: fit(99)", Check.reading("A".repeat(50) + "/.", OPEN, 2).fit(99), NONE);
        CHECK.due("119 pages: fit(99)", Check.reading("A".repeat(60), OPEN, 2).fit(99), NONE);
    }

    private static void fitNumbers() {
        CHECK.sentence("promise 15: OUTSIDE: n is not 0 to 99");
        HeadMarks x = Check.reading("..");
        CHECK.due("fit(0)", x.fit(0), NONE);
        for (int n = 1; n <= 99; n++) {
            CHECK.due("fit(" + n + ")", x.fit(n), 2);
        }
        for (int n : new int[] {-1, 100, -6, 101, 119, LOWEST, HIGHEST}) {
            CHECK.due("fit(" + n + ")", x.fit(n), OUTSIDE);
            CHECK.due("no lines: fit(" + n + ")", new HeadMarks().fit(n), OUTSIDE);
            CHECK.due("OUTSIDE, not NONE: fit(" + n + ")", Check.reading("A".repeat(60), OPEN, 2).fit(n), OUTSIDE);
        }
    }
}
