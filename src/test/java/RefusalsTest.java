import java.util.ArrayList;
import java.util.LinkedHashMap;
import java.util.List;
import java.util.Map;
import java.util.function.Supplier;
import java.util.function.ToIntFunction;

/**
 * "Calls that are refused answer the first that fits, in the order in which they are told with the call. NONE is
 * answered only where no refusal fits. What is refused changes nothing": each refusal of each call, in several states.
 */
public final class RefusalsTest {
    private static final Check CHECK = new Check();
    private static final int UNKNOWN = HeadMarks.UNKNOWN;
    private static final int OUTSIDE = HeadMarks.OUTSIDE;
    private static final int FAULT = HeadMarks.FAULT;
    private static final int STATE = HeadMarks.STATE;
    private static final int FULL = HeadMarks.FULL;
    private static final int NONE = HeadMarks.NONE;
    private static final int LOWEST = Integer.MIN_VALUE;
    private static final int HIGHEST = Integer.MAX_VALUE;

    /** A call, and what it must answer. */
    private record Call(String name, ToIntFunction<HeadMarks> ask, int due) {
    }

    public static void main(String[] args) {
        for (Map.Entry<String, Supplier<HeadMarks>> state : states().entrySet()) {
            String name = state.getKey();
            Supplier<HeadMarks> make = state.getValue();
            CHECK.sentence("Terms: What is refused changes nothing; state: " + name);
            List<Call> refused = refusedAnywhere();
            refused.addAll(refusedIn(name));
            changeNothing(make, refused);
            CHECK.sentence("Terms: refused calls answer the first that fits; state: " + name);
            changeNothing(make, firstThatFits(name));
            CHECK.sentence("Terms: NONE is answered only where no refusal fits; state: " + name);
            changeNothing(make, refusedThoughNone());
            CHECK.sentence("calls that ask change nothing; state: " + name);
            changeNothing(make, List.of(new Call("all that ask", RefusalsTest::askAll, 0)));
        }
        CHECK.end();
    }

    private static void changeNothing(Supplier<HeadMarks> make, List<Call> calls) {
        List<List<Integer>> before = Views.all(make);
        for (Call call : calls) {
            List<List<Integer>> behind = Views.all(() -> {
                HeadMarks x = make.get();
                CHECK.due(call.name, call.ask.applyAsInt(x), call.due);
                return x;
            });
            for (int view = 0; view < before.size(); view++) {
                CHECK.same("view " + view + " behind " + call.name, "" + behind.get(view), "" + before.get(view));
            }
        }
    }

    // ---- states

    private static Map<String, Supplier<HeadMarks>> states() {
        Map<String, Supplier<HeadMarks>> states = new LinkedHashMap<>();
        states.put("new", HeadMarks::new);
        states.put("one line", () -> Check.reading("A"));
        states.put("faulty pad", () -> padded(Check.reading("Aa/.B"), "./"));
        states.put("full pad", () -> padded(Check.reading("Aa/.B"), "Ab/" + "Cd.".repeat(19)));
        states.put("full and faulty pad", () -> padded(Check.reading("Aa/.B"), "h" + ".".repeat(58) + "/"));
        states.put("all kept", RefusalsTest::allKept);
        states.put("most pages", RefusalsTest::mostPages);
        states.put("least HIGH", () -> Check.reading("A.b./c", 0, 2));
        return states;
    }

    private static HeadMarks padded(HeadMarks x, String signs) {
        Check.sayAll(x, signs);
        return x;
    }

    /** Both images hold other texts and rules than the object, and the pad another text. */
    private static HeadMarks allKept() {
        HeadMarks x = Check.reading("../C.d", 4, 1, 5, 1);
        x.image(0);
        Check.sayAll(x, "dD/e");
        x.read();
        x.rule(3, 0);
        x.image(1);
        Check.sayAll(x, "Aa/b.B.c.C");
        x.read();
        int[] rules = {3, 2, 2, 1, 0, 0, 0, 2, 1};
        for (int r = 0; r < 9; r++) {
            x.rule(r, rules[r]);
        }
        x.cut(5, 1);
        return padded(x, "H/g.f");
    }

    private static HeadMarks mostPages() {
        HeadMarks x = Check.reading("A".repeat(60), 1, 2, 6, 0);
        x.image(1);
        x.rule(7, 0);
        return x;
    }

    // ---- calls

    private static void add(List<Call> calls, int due, String name, ToIntFunction<HeadMarks> ask) {
        calls.add(new Call(name, ask, due));
    }

    /** Each refusal that fits whatever the object holds. */
    private static List<Call> refusedAnywhere() {
        List<Call> calls = new ArrayList<>();
        for (int sign : new int[] {LOWEST, -1, 0, 32, 127, 302, HIGHEST}) {
            add(calls, OUTSIDE, "say(" + sign + ")", x -> x.say(sign));
        }
        refusedRules(calls);
        for (int line : new int[] {LOWEST, -1, 0, 60, HIGHEST}) {
            add(calls, UNKNOWN, "cut(" + line + ", 0)", x -> x.cut(line, 0));
            add(calls, UNKNOWN, "cut(" + line + ", 1)", x -> x.cut(line, 1));
            add(calls, UNKNOWN, "changed(" + line + ")", x -> x.changed(line));
        }
        for (int line : new int[] {LOWEST, -1, 60, HIGHEST}) {
            add(calls, UNKNOWN, "line(" + line + ", 0)", x -> x.line(line, 0));
        }
        for (int page : new int[] {LOWEST, -1, 0, 120, HIGHEST}) {
            add(calls, UNKNOWN, "page(" + page + ", 0)", x -> x.page(page, 0));
            add(calls, UNKNOWN, "mark(" + page + ", 0, 0)", x -> x.mark(page, 0, 0));
        }
        for (int k : new int[] {LOWEST, -1, 2, 32, HIGHEST}) {
            add(calls, OUTSIDE, "image(" + k + ")", x -> x.image(k));
            add(calls, OUTSIDE, "restore(" + k + ")", x -> x.restore(k));
        }
        for (int what : new int[] {LOWEST, -1, 9, 19, HIGHEST}) {
            add(calls, OUTSIDE, "count(" + what + ")", x -> x.count(what));
        }
        return calls;
    }

    private static void refusedRules(List<Call> calls) {
        int[] least = {2, 0, 0, 0, 0, 0, 0, 0, 0};
        int[] most = {9, 2, 2, 1, 1, 1, 1, 2, 2};
        for (int r = 0; r < 9; r++) {
            int rule = r;
            for (int v : new int[] {least[r] - 1, most[r] + 1, LOWEST, HIGHEST}) {
                add(calls, OUTSIDE, "rule(" + rule + ", " + v + ")", x -> x.rule(rule, v));
            }
        }
        for (int what : new int[] {LOWEST, -1, 9, 10, HIGHEST}) {
            add(calls, OUTSIDE, "rule(" + what + ", 1)", x -> x.rule(what, 1));
        }
    }

    /** Each refusal that fits in this state, but not in all. */
    private static List<Call> refusedIn(String state) {
        List<Call> calls = new ArrayList<>();
        boolean hasLines = !state.equals("new");
        if (hasLines) {
            refusedOfLines(calls);
        } else {
            add(calls, UNKNOWN, "line(0, 0)", x -> x.line(0, 0));
            add(calls, UNKNOWN, "page(1, 0)", x -> x.page(1, 0));
            add(calls, UNKNOWN, "mark(1, 0, 0)", x -> x.mark(1, 0, 0));
        }
        switch (state) {
            case "new", "one line" -> {
                add(calls, UNKNOWN, "cut(1, 1)", x -> x.cut(1, 1));
                add(calls, UNKNOWN, "cut(1, 0)", x -> x.cut(1, 0));
                add(calls, UNKNOWN, "changed(1)", x -> x.changed(1));
                add(calls, STATE, "restore(0)", x -> x.restore(0));
                add(calls, STATE, "restore(1)", x -> x.restore(1));
            }
            case "faulty pad" -> add(calls, FAULT, "read()", HeadMarks::read);
            case "full pad" -> addFull(calls);
            case "full and faulty pad" -> {
                addFull(calls);
                add(calls, FAULT, "read()", HeadMarks::read);
            }
            case "all kept" -> add(calls, OUTSIDE, "rule(0, 2), KEEP being 2", x -> x.rule(0, 2));
            case "most pages" -> add(calls, STATE, "restore(0)", x -> x.restore(0));
            default -> add(calls, OUTSIDE, "rule(2, 2), HIGH being 2", x -> x.rule(2, 2));
        }
        return calls;
    }

    private static void addFull(List<Call> calls) {
        for (int sign : new int[] {33, '.', '/', 'A', 126}) {
            add(calls, FULL, "say(" + sign + ")", x -> x.say(sign));
        }
    }

    private static void refusedOfLines(List<Call> calls) {
        for (int what : new int[] {LOWEST, -1, 6, HIGHEST}) {
            add(calls, OUTSIDE, "line(0, " + what + ")", x -> x.line(0, what));
            add(calls, OUTSIDE, "page(1, " + what + ")", x -> x.page(1, what));
            add(calls, OUTSIDE, "mark(1, " + what + ", 0)", x -> x.mark(1, what, 0));
            add(calls, OUTSIDE, "mark(1, 0, " + what + ")", x -> x.mark(1, 0, what));
        }
        add(calls, OUTSIDE, "page(1, 4)", x -> x.page(1, 4));
        add(calls, OUTSIDE, "mark(1, 2, 0)", x -> x.mark(1, 2, 0));
        add(calls, OUTSIDE, "mark(1, 0, 3)", x -> x.mark(1, 0, 3));
    }

    /** Calls for which two refusals fit. */
    private static List<Call> firstThatFits(String state) {
        List<Call> calls = new ArrayList<>();
        for (int is : new int[] {LOWEST, -1, 2, HIGHEST}) {
            add(calls, UNKNOWN, "cut(0, " + is + ")", x -> x.cut(0, is));
            add(calls, UNKNOWN, "cut(60, " + is + ")", x -> x.cut(60, is));
        }
        for (int what : new int[] {LOWEST, -1, 6, HIGHEST}) {
            add(calls, UNKNOWN, "line(-1, " + what + ")", x -> x.line(-1, what));
            add(calls, UNKNOWN, "line(60, " + what + ")", x -> x.line(60, what));
            add(calls, UNKNOWN, "page(0, " + what + ")", x -> x.page(0, what));
            add(calls, UNKNOWN, "page(120, " + what + ")", x -> x.page(120, what));
            add(calls, UNKNOWN, "mark(0, " + what + ", 0)", x -> x.mark(0, what, 0));
            add(calls, UNKNOWN, "mark(120, 0, " + what + ")", x -> x.mark(120, 0, what));
        }
        if (state.startsWith("full")) {
            for (int sign : new int[] {LOWEST, 32, 127, HIGHEST}) {
                add(calls, OUTSIDE, "say(" + sign + ")", x -> x.say(sign));
            }
        }
        if (state.equals("new")) {
            for (int k : new int[] {LOWEST, -1, 2, HIGHEST}) {
                add(calls, OUTSIDE, "restore(" + k + ")", x -> x.restore(k));
            }
        }
        if (!state.equals("new") && !state.equals("one line")) {
            add(calls, OUTSIDE, "cut(1, 2)", x -> x.cut(1, 2));
            add(calls, OUTSIDE, "cut(1, -1)", x -> x.cut(1, -1));
        }
        return calls;
    }

    /** Calls that there is nothing to tell for, but that are refused ahead of it. */
    private static List<Call> refusedThoughNone() {
        List<Call> calls = new ArrayList<>();
        for (int letter : new int[] {LOWEST, NONE, 0, '.', '/', '@', 'I', '`', 'i', HIGHEST}) {
            add(calls, OUTSIDE, "headed(" + letter + ", -2)", x -> x.headed(letter, -2));
            add(calls, OUTSIDE, "headed(" + letter + ", 60)", x -> x.headed(letter, 60));
        }
        for (int what : new int[] {LOWEST, -1, 5, HIGHEST}) {
            add(calls, OUTSIDE, "chapter(-1, " + what + ")", x -> x.chapter(-1, what));
            add(calls, OUTSIDE, "chapter(60, " + what + ")", x -> x.chapter(60, what));
            add(calls, OUTSIDE, "chapter(0, " + what + ")", x -> x.chapter(0, what));
            add(calls, OUTSIDE, "worst(" + what + ")", x -> x.worst(what));
        }
        add(calls, OUTSIDE, "worst(2)", x -> x.worst(2));
        for (int n : new int[] {LOWEST, -1, 100, HIGHEST}) {
            add(calls, OUTSIDE, "fit(" + n + ")", x -> x.fit(n));
        }
        return calls;
    }

    private static int askAll(HeadMarks x) {
        x.fault();
        for (int what = 0; what <= 5; what++) {
            x.line(0, what);
            x.page(1, what);
            x.mark(1, what % 2, what / 2);
            x.chapter(0, what);
            x.changed(what);
            x.worst(what % 2);
            x.fit(what);
            x.headed('A', what - 1);
        }
        return 0;
    }
}
