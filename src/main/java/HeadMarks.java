/** Heads that run on from page to page. */
public final class HeadMarks {
    public static final int UNKNOWN = -1, OUTSIDE = -2, STATE = -3, FULL = -4, NONE = -6, FAULT = -7;

    /** Each sign is one LINE at most, so this bounds the LINES, too. */
    private static final int MOST_SIGNS = 60;
    /** A LINE takes one PAGE and one BLANK PAGE at most, and LINE 0 takes no BLANK one. */
    private static final int MOST_PAGES = 2 * MOST_SIGNS - 1;
    private static final int IMAGES = 2;
    private static final int MOST_FIT = 99;

    private static final int HIGH = 0, OPEN = 1, KEEP = 2, CLEAR = 3, BARE = 4;
    private static final int WHAT_LEFT = 5, WHAT_RIGHT = 6, HOW_LEFT = 7, HOW_RIGHT = 8;
    private static final int RULES = 9;
    private static final int[] RULE_AT_FIRST = {5, 0, 1, 1, 0, 0, 1, 1, 2};
    private static final int[] RULE_LEAST = {2, 0, 0, 0, 0, 0, 0, 0, 0};
    private static final int[] RULE_MOST = {9, 2, 2, 1, 1, 1, 1, 2, 2};
    /** From this number on count tells the RULES. */
    private static final int COUNT_RULES = 10;

    private static final int OF_CHAPTER = 0, OF_SECTION = 1, CLASSES = 2;
    private static final int TOP = 0, FIRST = 1, LAST = 2;
    private static final int OPEN_RIGHT = 2;
    private static final int NO_LINE = -1;

    private final Pad pad;
    private final Book book;
    private final Book[] images;
    private int imagesKept;
    /** How the book falls into pages now: laid again after each change of the book. */
    private final Layout now;
    /** How it would fall, if something were other than it is. */
    private final Layout trial;

    public HeadMarks() {
        pad = new Pad();
        book = new Book();
        images = new Book[IMAGES];
        for (int k = 0; k < IMAGES; k++) {
            images[k] = new Book();
        }
        imagesKept = 0;
        now = new Layout();
        trial = new Layout();
    }

    // ---- 1 texts

    public int say(int sign) {
        if (sign < 33 || sign > 126) {
            return OUTSIDE;
        }
        if (pad.size >= MOST_SIGNS) {
            return FULL;
        }
        pad.append(sign);
        return pad.size;
    }

    public int wipe() {
        int had = pad.size;
        pad.size = 0;
        return had;
    }

    public int fault() {
        return pad.faultPlace();
    }

    public int read() {
        if (pad.faultPlace() != NONE) {
            return FAULT;
        }
        book.takeText(pad);
        pad.size = 0;
        layNow();
        return book.lines;
    }

    public int rule(int what, int v) {
        if (what < 0 || what >= RULES || !book.mayRule(what, v)) {
            return OUTSIDE;
        }
        int was = book.rules[what];
        book.rules[what] = v;
        layNow();
        return was;
    }

    public int cut(int line, int is) {
        if (!book.canBreakAhead(line)) {
            return UNKNOWN;
        }
        if (is != 0 && is != 1) {
            return OUTSIDE;
        }
        book.broken[line] = is;
        layNow();
        return book.countBreaks();
    }

    // ---- 2 pages

    public int line(int line, int what) {
        if (line < 0 || line >= book.lines) {
            return UNKNOWN;
        }
        switch (what) {
            case 0: return classOf(book.signs[line]) == NONE ? NONE : book.signs[line];
            case 1: return now.pageOf[line];
            case 2: return line - now.linesAhead[now.pageOf[line]];
            case 3: return book.broken[line];
            case 4: return now.inForce[OF_CHAPTER][line];
            case 5: return now.inForce[OF_SECTION][line];
            default: return OUTSIDE;
        }
    }

    public int page(int page, int what) {
        if (!now.hasPage(page)) {
            return UNKNOWN;
        }
        switch (what) {
            case 0: return now.linesOn[page];
            case 1: return now.linesOn[page] == 0 ? NONE : now.linesAhead[page];
            case 2: return now.heads[page];
            case 3: return now.isShared(page) ? 1 : 0;
            default: return OUTSIDE;
        }
    }

    public int mark(int page, int cls, int how) {
        if (!now.hasPage(page)) {
            return UNKNOWN;
        }
        if (cls < 0 || cls >= CLASSES || how < TOP || how > LAST) {
            return OUTSIDE;
        }
        return now.markOf(page, cls, how);
    }

    public int headed(int letter, int i) {
        if (classOf(letter) == NONE) {
            return OUTSIDE;
        }
        int found = 0;
        for (int page = 1; page <= now.pages; page++) {
            if (now.heads[page] == letter) {
                if (found == i) {
                    return page;
                }
                found++;
            }
        }
        return i == -1 ? found : NONE;
    }

    // ---- 3 chapters, changes

    public int chapter(int k, int what) {
        if (what < 0 || what > 4) {
            return OUTSIDE;
        }
        if (k < 0 || k >= now.countChapters()) {
            return NONE;
        }
        int title = now.titleLineOf(k);
        int last = now.lastLineOf(k);
        switch (what) {
            case 0: return book.signs[title];
            case 1: return now.pageOf[title];
            case 2: return now.pageOf[last];
            case 3: return last - title + 1;
            default: return book.countSections(title, last);
        }
    }

    public int changed(int line) {
        return book.canBreakAhead(line) ? countChanged(line) : UNKNOWN;
    }

    public int worst(int what) {
        if (what != 0 && what != 1) {
            return OUTSIDE;
        }
        int worstLine = NONE;
        int most = 0;
        for (int k = 1; k < book.lines; k++) {
            int pages = countChanged(k);
            if (worstLine == NONE || pages > most) {
                worstLine = k;
                most = pages;
            }
        }
        return what == 0 ? worstLine : most;
    }

    public int fit(int n) {
        if (n < 0 || n > MOST_FIT) {
            return OUTSIDE;
        }
        int least = Math.max(RULE_LEAST[HIGH], book.rules[KEEP] + 1);
        for (int high = least; high <= RULE_MOST[HIGH]; high++) {
            trial.lay(book, high, NO_LINE);
            if (trial.pages <= n) {
                return high;
            }
        }
        return NONE;
    }

    // ---- 4 images

    public int image(int k) {
        if (k < 0 || k >= IMAGES) {
            return OUTSIDE;
        }
        images[k].copyFrom(book);
        imagesKept |= 1 << k;
        return 1;
    }

    public int restore(int k) {
        if (k < 0 || k >= IMAGES) {
            return OUTSIDE;
        }
        if ((imagesKept >> k & 1) == 0) {
            return STATE;
        }
        book.copyFrom(images[k]);
        layNow();
        return 1;
    }

    public int count(int what) {
        if (what >= COUNT_RULES && what < COUNT_RULES + RULES) {
            return book.rules[what - COUNT_RULES];
        }
        switch (what) {
            case 0: return book.lines;
            case 1: return now.pages;
            case 2: return now.countBlank();
            case 3: return book.countBreaks();
            case 4: return now.countChapters();
            case 5: return now.countShared();
            case 6: return now.countHeads();
            case 7: return pad.size;
            case 8: return imagesKept;
            default: return OUTSIDE;
        }
    }

    private void layNow() {
        now.lay(book, book.rules[HIGH], NO_LINE);
    }

    private int countChanged(int line) {
        trial.lay(book, book.rules[HIGH], line);
        int most = Math.max(now.pages, trial.pages);
        int pages = 0;
        for (int page = 1; page <= most; page++) {
            if (now.headOrNone(page) != trial.headOrNone(page)) {
                pages++;
            }
        }
        return pages;
    }

    private static int classOf(int sign) {
        if (sign >= 'A' && sign <= 'H') {
            return OF_CHAPTER;
        }
        return sign >= 'a' && sign <= 'h' ? OF_SECTION : NONE;
    }

    /** THE PAD. */
    private static final class Pad {
        final int[] signs = new int[MOST_SIGNS];
        int size = 0;

        void append(int sign) {
            if (size < MOST_SIGNS) {
                signs[size] = sign;
                size++;
            }
        }

        int faultPlace() {
            // At the beginning a break can not stand, just as behind another break.
            boolean lineMustCome = true;
            for (int i = 0; i < size; i++) {
                boolean isBreak = signs[i] == '/';
                boolean isLine = signs[i] == '.' || classOf(signs[i]) != NONE;
                if (isBreak ? lineMustCome : !isLine) {
                    return i;
                }
                lineMustCome = isBreak;
            }
            return size > 0 && lineMustCome ? size : NONE;
        }
    }

    /** THE TEXT with its BREAKS, and the RULES: all that an IMAGE keeps. */
    private static final class Book {
        final int[] signs = new int[MOST_SIGNS];
        /** 1: a BREAK is ahead of the LINE. */
        final int[] broken = new int[MOST_SIGNS];
        final int[] rules = RULE_AT_FIRST.clone();
        int lines = 0;

        void takeText(Pad pad) {
            lines = 0;
            int breakAhead = 0;
            for (int i = 0; i < pad.size; i++) {
                if (pad.signs[i] == '/') {
                    breakAhead = 1;
                } else {
                    signs[lines] = pad.signs[i];
                    broken[lines] = breakAhead;
                    lines++;
                    breakAhead = 0;
                }
            }
        }

        void copyFrom(Book other) {
            System.arraycopy(other.signs, 0, signs, 0, MOST_SIGNS);
            System.arraycopy(other.broken, 0, broken, 0, MOST_SIGNS);
            System.arraycopy(other.rules, 0, rules, 0, RULES);
            lines = other.lines;
        }

        boolean mayRule(int what, int v) {
            if (v < RULE_LEAST[what] || v > RULE_MOST[what]) {
                return false;
            }
            int high = what == HIGH ? v : rules[HIGH];
            int keep = what == KEEP ? v : rules[KEEP];
            return keep < high;
        }

        boolean canBreakAhead(int line) {
            return line >= 1 && line < lines;
        }

        int countBreaks() {
            int breaks = 0;
            for (int k = 0; k < lines; k++) {
                breaks += broken[k];
            }
            return breaks;
        }

        int countSections(int from, int to) {
            int sections = 0;
            for (int k = from; k <= to; k++) {
                if (classOf(signs[k]) == OF_SECTION) {
                    sections++;
                }
            }
            return sections;
        }
    }

    /** A book as it falls into pages. Rows of pages begin at 1. */
    private static final class Layout {
        final int[] pageOf = new int[MOST_SIGNS];
        /** Of lines ahead of the first chapter: -1. */
        final int[] chapterOf = new int[MOST_SIGNS];
        /** By class and line: what is in force behind the line. */
        final int[][] inForce = new int[CLASSES][MOST_SIGNS];
        /** How many lines the pages ahead have: of a page that is not blank, its first line. */
        final int[] linesAhead = new int[MOST_PAGES + 1];
        final int[] linesOn = new int[MOST_PAGES + 1];
        /** By class and page: the first mark on the page itself. */
        final int[][] ownFirst = new int[CLASSES][MOST_PAGES + 1];
        final int[] heads = new int[MOST_PAGES + 1];
        int lines = 0;
        int pages = 0;

        /** Lays the book by another HIGH, and as if the break ahead of the line flipped came or went. */
        void lay(Book book, int high, int flipped) {
            lines = book.lines;
            pages = 0;
            for (int k = 0; k < lines; k++) {
                boolean broken = (book.broken[k] == 1) != (k == flipped);
                if (k == 0 || broken || opensPage(book, k, high)) {
                    turnPage(book, k);
                }
                putLine(book, k);
            }
            for (int page = 1; page <= pages; page++) {
                heads[page] = headOf(book, page);
            }
        }

        private boolean opensPage(Book book, int k, int high) {
            int cls = classOf(book.signs[k]);
            int roomBehind = high - linesOn[pages] - 1;
            return roomBehind < 0
                || cls == OF_CHAPTER && book.rules[OPEN] != 0
                || cls != NONE && roomBehind < book.rules[KEEP];
        }

        private void turnPage(Book book, int k) {
            addPage(k);
            boolean mustBeRight = book.rules[OPEN] == OPEN_RIGHT && classOf(book.signs[k]) == OF_CHAPTER;
            if (mustBeRight && isLeft(pages)) {
                addPage(k);
            }
        }

        private void addPage(int ahead) {
            if (pages >= MOST_PAGES) {
                return;
            }
            pages++;
            linesAhead[pages] = ahead;
            linesOn[pages] = 0;
            for (int cls = 0; cls < CLASSES; cls++) {
                ownFirst[cls][pages] = NONE;
            }
        }

        private void putLine(Book book, int k) {
            pageOf[k] = pages;
            linesOn[pages]++;
            chapterOf[k] = k == 0 ? -1 : chapterOf[k - 1];
            for (int cls = 0; cls < CLASSES; cls++) {
                inForce[cls][k] = forceBehind(cls, k);
            }
            int cls = classOf(book.signs[k]);
            if (cls != NONE) {
                putMark(book, k, cls);
            }
        }

        private void putMark(Book book, int k, int cls) {
            inForce[cls][k] = book.signs[k];
            if (ownFirst[cls][pages] == NONE) {
                ownFirst[cls][pages] = book.signs[k];
            }
            if (cls == OF_CHAPTER) {
                chapterOf[k]++;
                if (book.rules[CLEAR] == 1) {
                    inForce[OF_SECTION][k] = NONE;
                }
            }
        }

        /** What is in force behind the first lines of the book, so many of them. */
        private int forceBehind(int cls, int soMany) {
            return soMany == 0 ? NONE : inForce[cls][soMany - 1];
        }

        private int headOf(Book book, int page) {
            if (linesOn[page] == 0) {
                return NONE;
            }
            if (book.rules[BARE] == 1 && classOf(book.signs[linesAhead[page]]) == OF_CHAPTER) {
                return NONE;
            }
            int what = isLeft(page) ? book.rules[WHAT_LEFT] : book.rules[WHAT_RIGHT];
            int how = isLeft(page) ? book.rules[HOW_LEFT] : book.rules[HOW_RIGHT];
            return markOf(page, what, how);
        }

        int markOf(int page, int cls, int how) {
            if (how == LAST) {
                return forceBehind(cls, linesAhead[page] + linesOn[page]);
            }
            if (how == FIRST && ownFirst[cls][page] != NONE) {
                return ownFirst[cls][page];
            }
            return forceBehind(cls, linesAhead[page]);
        }

        boolean hasPage(int page) {
            return page >= 1 && page <= pages;
        }

        int headOrNone(int page) {
            return hasPage(page) ? heads[page] : NONE;
        }

        boolean isShared(int page) {
            if (linesOn[page] == 0) {
                return false;
            }
            int first = linesAhead[page];
            int last = first + linesOn[page] - 1;
            // Lines of no chapter share nothing: behind them comes chapter 0.
            return chapterOf[last] > Math.max(chapterOf[first], 0);
        }

        int titleLineOf(int chapter) {
            int k = 0;
            while (k < lines - 1 && chapterOf[k] < chapter) {
                k++;
            }
            return k;
        }

        int lastLineOf(int chapter) {
            int k = lines - 1;
            while (k > 0 && chapterOf[k] > chapter) {
                k--;
            }
            return k;
        }

        int countChapters() {
            return lines == 0 ? 0 : chapterOf[lines - 1] + 1;
        }

        int countBlank() {
            int blank = 0;
            for (int page = 1; page <= pages; page++) {
                if (linesOn[page] == 0) {
                    blank++;
                }
            }
            return blank;
        }

        int countShared() {
            int shared = 0;
            for (int page = 1; page <= pages; page++) {
                if (isShared(page)) {
                    shared++;
                }
            }
            return shared;
        }

        int countHeads() {
            int carried = 0;
            for (int page = 1; page <= pages; page++) {
                if (heads[page] != NONE) {
                    carried++;
                }
            }
            return carried;
        }

        private static boolean isLeft(int page) {
            return page % 2 == 0;
        }
    }
}
