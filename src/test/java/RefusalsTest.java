import java.lang.reflect.Method;
import java.util.ArrayList;
import java.util.Arrays;
import java.util.List;

/**
 * Each call of the face with every combination of edge numbers, in several states: which refusal comes first, that
 * count tells it once and no other, and that nothing else has changed. A call that only asks changes nothing, too.
 */
public final class RefusalsTest {
    private static final int MIN = Integer.MIN_VALUE;
    private static final int MAX = Integer.MAX_VALUE;
    private static final int[] CORNERS = {MIN, -1, 0, 1, 5, 6, 7, MAX};
    private static final int[] STREETS = {MIN, -1, 0, 2, 3, 7, 8, 32, MAX};
    private static final int[] WHATS = {MIN, -1, 0, 1, 2, 3, 4, 5, 7, 8, MAX};
    private static final int[] LENGTHS = {MIN, -1, 0, 1, 99, 100, MAX};
    private static final int[] DIGITS = {MIN, -1, 0, 9, 10, MAX};
    private static final int[] FEW = {MIN, -1, 0, 1, 3, 4, MAX};
    private static final int[] ANY = {MIN, -1, 0, 1, MAX};

    interface Setup {
        void make(PostmanRounds x);
    }

    /** What the refusals depend on. */
    record State(String name, int streets, int letters, int row, int steps, boolean image, Setup setup) {
        boolean hasRound() {
            return steps >= 0;
        }
    }

    interface Rule {
        /** The first refusal that fits, 0 if none does. */
        int refusal(State s, int[] a);
    }

    record Call(String name, boolean changes, Rule rule, int[]... edges) {
    }

    private static final List<State> STATES = List.of(
            new State("new", 0, 0, 0, 0, false, x -> { }),
            new State("usual", 3, 9, 2, 4, true, RefusalsTest::usual),
            new State("full", 8, 96, 32, 10, true, RefusalsTest::full),
            new State("without a round", 3, 0, 0, -1, false, RefusalsTest::noRound));

    private static final List<Call> CALLS = List.of(
            new Call("letter", true, (s, a) -> a[0] < 0 ? -4 : a[0] > 255 || s.letters == 96 ? -6 : 0,
                    new int[] {MIN, -1, 0, 97, 255, 256, MAX}),
            new Call("map", true, (s, a) -> 0),
            new Call("streets", true, (s, a) -> noCorner(a[0]) || noCorner(a[1]) ? -1 : a[0] == a[1] ? -3 : a[2] < 1 ? -4
                    : a[2] > 99 || s.streets == 8 ? -6 : 0, CORNERS, CORNERS, LENGTHS),
            new Call("turns", true, (s, a) -> noStreet(s, a[0]) ? -1 : 0, STREETS),
            new Call("length", true, (s, a) -> noStreet(s, a[0]) ? -1 : a[1] < 1 ? -4 : a[1] > 99 ? -6 : 0, STREETS, LENGTHS),
            new Call("kind", true, (s, a) -> noStreet(s, a[0]) ? -1 : a[1] < 0 || a[1] > 5 ? -2 : a[2] < 0 ? -4
                    : a[2] > 9 ? -6 : 0, STREETS, new int[] {MIN, -1, 0, 5, 6, MAX}, DIGITS),
            new Call("home", true, (s, a) -> noCorner(a[0]) ? -1 : 0, CORNERS),
            new Call("street", false, (s, a) -> noStreet(s, a[0]) ? -1 : noWhat(a[1], 7), STREETS, WHATS),
            new Call("corner", false, (s, a) -> noCorner(a[0]) ? -1 : noWhat(a[1], 2), CORNERS, WHATS),
            new Call("distance", false, (s, a) -> noCorner(a[0]) || noCorner(a[1]) ? -1 : 0, CORNERS, CORNERS),
            new Call("next", false, (s, a) -> noCorner(a[0]) || noCorner(a[1]) ? -1 : 0, CORNERS, CORNERS),
            new Call("round", false, (s, a) -> noWhat(a[0], 3), WHATS),
            new Call("step", false, (s, a) -> a[0] < 0 || a[0] >= s.steps ? -1 : noWhat(a[1], 4),
                    new int[] {MIN, -1, 0, 3, 4, 9, 10, 64, MAX}, WHATS),
            new Call("time", false, (s, a) -> 0, ANY, ANY),
            new Call("rank", false, (s, a) -> s.hasRound() ? 0 : -3, ANY, ANY, ANY, ANY),
            new Call("mean", false, (s, a) -> 0),
            new Call("odd", false, (s, a) -> 0),
            new Call("matched", false, (s, a) -> noCorner(a[0]) ? -1 : 0, CORNERS),
            new Call("matching", false, (s, a) -> 0),
            new Call("spliced", false, (s, a) -> a[0] < -1 ? -4 : 0, new int[] {MIN, -3, -2, -1, 0, 9, 32, 33, MAX}),
            new Call("balance", false, (s, a) -> noCorner(a[0]) ? -1 : 0, CORNERS),
            new Call("flow", false, (s, a) -> 0),
            new Call("loose", false, (s, a) -> noWhat(a[0], 1), WHATS),
            new Call("without", false, (s, a) -> noStreet(s, a[0]) ? -1 : 0, STREETS),
            new Call("turned", false, (s, a) -> noStreet(s, a[0]) ? -1 : 0, STREETS),
            new Call("worst", false, (s, a) -> 0),
            new Call("shared", false, (s, a) -> a[0] < 1 ? -4 : a[0] > 3 ? -6 : noWhat(a[1], 2), FEW, WHATS),
            new Call("dealt", false, (s, a) -> a[0] < 1 ? -4 : a[0] > 3 ? -6 : noStreet(s, a[1]) ? -1 : 0, FEW, STREETS),
            new Call("lost", false, (s, a) -> a[0] < 0 || a[1] < 2 ? -4 : a[0] > 9999 || a[1] > 20 ? -6 : noWhat(a[2], 1),
                    new int[] {MIN, -1, 0, 9999, 10000, MAX}, new int[] {MIN, 0, 1, 2, 20, 21, MAX}, WHATS),
            new Call("whatIs", false, (s, a) -> noStreet(s, a[0]) ? -1 : noWhat(a[1], 1), STREETS, WHATS),
            new Call("row", true, (s, a) -> a[0] < 0 ? -4 : a[0] > 9 || s.row == 32 ? -6 : 0, DIGITS),
            new Call("judge", true, (s, a) -> 0),
            new Call("clear", true, (s, a) -> 0),
            new Call("lots", false, (s, a) -> a[0] < 1 ? -4 : a[0] > 20 ? -6 : noWhat(a[2], 1),
                    new int[] {MIN, -1, 0, 1, 20, 21, MAX}, ANY, WHATS),
            new Call("image", true, (s, a) -> 0),
            new Call("on", true, (s, a) -> s.image ? 0 : -3),
            new Call("count", false, (s, a) -> 0, new int[] {MIN, -6, -1, 0, 6, 7, 8, 9, 10, 11, 15, 16, 17, 18, MAX}));

    private static boolean noCorner(int corner) {
        return corner < 0 || corner > 5;
    }

    private static boolean noStreet(State s, int street) {
        return street < 0 || street >= s.streets;
    }

    private static int noWhat(int what, int greatest) {
        return what < 0 || what > greatest ? -2 : 0;
    }

    // ---- states ----

    private static void usual(PostmanRounds x) {
        x.streets(1, 2, 6);
        x.kind(0, 2, 3);
        x.home(1);
        x.image();
        x.streets(2, 0, 8);
        x.streets(4, 5, 9);
        x.turns(2);
        x.kind(1, 4, 1);
        // The round goes b, c, a, c, b.
        Check.row(x, 1, 2);
        Check.letters(x, "x2;sad07;");
    }

    private static void full(PostmanRounds x) {
        x.streets(0, 1, 11);
        x.streets(1, 2, 12);
        x.image();
        x.streets(2, 3, 13);
        x.streets(3, 4, 14);
        x.streets(4, 5, 15);
        x.streets(5, 0, 16);
        x.streets(2, 3, 17);
        x.streets(4, 3, 18);
        x.kind(7, 3, 9);
        x.kind(2, 1, 2);
        // The round's eleven corners, and more than these.
        Check.row(x, 0, 1, 2, 3, 2, 3, 4, 3, 4, 5, 0);
        for (int i = 11; i < 32; i++) {
            x.row(9);
        }
        Check.letters(x, "x0;".repeat(31) + "hc;");
    }

    private static void noRound(PostmanRounds x) {
        x.streets(0, 1, 11);
        x.streets(1, 2, 12);
        x.streets(2, 0, 13);
        x.home(5);
    }

    // ---- all that can be seen of an object ----

    private static void seeTown(PostmanRounds x, List<Long> seen) {
        for (int what = 0; what <= 4; what++) {
            seen.add((long) x.count(what));
        }
        for (int street = 0; street < x.count(0); street++) {
            for (int what = 0; what <= 5; what++) {
                seen.add((long) x.street(street, what));
            }
        }
    }

    /** Without refusals; in the end nothing is left as it was. */
    private static List<Long> see(PostmanRounds x) {
        List<Long> seen = new ArrayList<>();
        seeTown(x, seen);
        seen.add((long) x.count(5));
        seen.add((long) x.count(6));
        for (int what = 0; what <= 3; what++) {
            seen.add((long) x.round(what));
        }
        for (int i = 0; i < x.round(1); i++) {
            seen.add((long) x.step(i, 0));
        }
        seen.add((long) x.loose(0));
        seen.add((long) x.judge());
        seen.add((long) x.count(5));
        seen.add((long) x.map());
        seen.add((long) x.count(6));
        seeTown(x, seen);
        seen.add((long) x.on());
        seeTown(x, seen);
        return seen;
    }

    // ---- trying ----

    private static long answer(Call call, int refusal) {
        if (call.name.equals("lost")) {
            return Check.LONG_REFUSED - refusal;
        }
        boolean isSigned = call.name.equals("balance") || call.name.equals("rank");
        return isSigned ? -100000 + refusal : refusal;
    }

    private static void attempt(State state, Call call, int[] numbers) throws Exception {
        Class<?>[] types = new Class<?>[numbers.length];
        Arrays.fill(types, int.class);
        Method method = PostmanRounds.class.getMethod(call.name, types);
        Object[] boxed = Arrays.stream(numbers).boxed().toArray();
        PostmanRounds x = new PostmanRounds();
        PostmanRounds like = new PostmanRounds();
        state.setup.make(x);
        state.setup.make(like);
        int refusal = call.rule.refusal(state, numbers);
        Check.says("REFUSALS: the first that fits, nothing changes but how many there were");
        String told = "in the state " + state.name + " " + call.name + Arrays.toString(numbers);
        long got = ((Number) method.invoke(x, boxed)).longValue();
        if (refusal != 0) {
            Check.due(told, got, answer(call, refusal));
        }
        for (int number = 1; number <= 6; number++) {
            Check.due(told + " then count(" + (10 + number) + ")", x.count(10 + number), number == -refusal ? 1 : 0);
        }
        if (refusal != 0) {
            Check.due(told + " once more", ((Number) method.invoke(x, boxed)).longValue(), answer(call, refusal));
            Check.due(told + " is counted twice", x.count(10 - refusal), 2);
        }
        if (refusal != 0 || !call.changes) {
            List<Long> want = see(like);
            List<Long> seen = see(x);
            Check.due(told + " changed something: " + seen + " was " + want, seen.equals(want) ? 1 : 0, 1);
        }
    }

    private static void attemptAll(State state, Call call, int[] numbers, int set) throws Exception {
        if (set == numbers.length) {
            attempt(state, call, numbers);
            return;
        }
        for (int number : call.edges[set]) {
            numbers[set] = number;
            attemptAll(state, call, numbers, set + 1);
        }
    }

    public static void main(String[] args) throws Exception {
        Check.says("the states are as the rules take them");
        for (State state : STATES) {
            PostmanRounds x = new PostmanRounds();
            state.setup.make(x);
            Check.due(state.name + " streets", x.count(0), state.streets);
            Check.due(state.name + " row", x.count(5), state.row);
            Check.due(state.name + " letters", x.count(6), state.letters);
            Check.due(state.name + " steps", x.round(1), state.hasRound() ? state.steps : -9);
            Check.noneRefused(x);
        }
        for (State state : STATES) {
            for (Call call : CALLS) {
                attemptAll(state, call, new int[call.edges.length], 0);
            }
        }
        Check.says("the public face");
        Check.due("calls tried", CALLS.size(), 37);
        Check.end("refusals are as told, and change nothing else");
    }
}
