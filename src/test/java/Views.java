import java.util.ArrayList;
import java.util.List;
import java.util.function.Supplier;

/**
 * All that an object tells, in several views: each of them is asked of an object made for it alone, since some of them
 * change it, and all of them together are more than the 512 calls of one object.
 */
final class Views {
    private static final int VIEWS = 11;

    private Views() {
    }

    /** Every view of the objects that are made so. */
    static List<List<Integer>> all(Supplier<HeadMarks> make) {
        List<List<Integer>> views = new ArrayList<>();
        for (int view = 0; view < VIEWS; view++) {
            views.add(view(make.get(), view));
        }
        return views;
    }

    private static List<Integer> view(HeadMarks x, int view) {
        List<Integer> told = new ArrayList<>();
        switch (view) {
            case 0 -> whole(x, told);
            case 1 -> lines(x, told, 0, 5);
            case 2 -> pages(x, told, 0, 2);
            case 3 -> {
                pages(x, told, 3, 3);
                changes(x, told);
            }
            case 4 -> marks(x, told, 0);
            case 5 -> marks(x, told, 1);
            case 6 -> chapters(x, told);
            case 7 -> pad(x, told);
            case 8 -> {
                // A break at the pad's end is seen by the line that comes behind it.
                told.add(x.say('h'));
                pad(x, told);
            }
            default -> {
                told.add(x.restore(view - 9));
                counts(x, told);
                lines(x, told, 0, 3);
            }
        }
        return told;
    }

    private static void counts(HeadMarks x, List<Integer> told) {
        for (int what = 0; what <= 18; what++) {
            told.add(x.count(what));
        }
    }

    private static void whole(HeadMarks x, List<Integer> told) {
        counts(x, told);
        told.add(x.fault());
        for (char letter : "ABCDEFGHabcdefgh".toCharArray()) {
            for (int i = -1; i <= 1; i++) {
                told.add(x.headed(letter, i));
            }
        }
        told.add(x.worst(0));
        told.add(x.worst(1));
        for (int n = 0; n <= 60; n++) {
            told.add(x.fit(n));
        }
    }

    private static void lines(HeadMarks x, List<Integer> told, int from, int to) {
        for (int k = 0, lines = x.count(0); k < lines; k++) {
            for (int what = from; what <= to; what++) {
                told.add(x.line(k, what));
            }
        }
    }

    private static void pages(HeadMarks x, List<Integer> told, int from, int to) {
        for (int page = 1, pages = x.count(1); page <= pages; page++) {
            for (int what = from; what <= to; what++) {
                told.add(x.page(page, what));
            }
        }
    }

    private static void changes(HeadMarks x, List<Integer> told) {
        for (int k = 1, lines = x.count(0); k < lines; k++) {
            told.add(x.changed(k));
        }
    }

    private static void marks(HeadMarks x, List<Integer> told, int cls) {
        for (int page = 1, pages = x.count(1); page <= pages; page++) {
            for (int how = 0; how <= 2; how++) {
                told.add(x.mark(page, cls, how));
            }
        }
    }

    private static void chapters(HeadMarks x, List<Integer> told) {
        for (int k = 0, chapters = x.count(4); k < chapters; k++) {
            for (int what = 0; what <= 4; what++) {
                told.add(x.chapter(k, what));
            }
        }
    }

    /** The pad's own signs, as the text that they are. */
    private static void pad(HeadMarks x, List<Integer> told) {
        told.add(x.count(7));
        told.add(x.fault());
        told.add(x.read());
        told.add(x.count(7));
        lines(x, told, 0, 3);
    }
}
