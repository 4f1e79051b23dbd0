import java.util.ArrayList;
import java.util.List;

/**
 * All that can be seen of an object after a run of calls: its state, its state after each undo that is possible, and
 * what its text does when it is told. Every look is at a new object that has had the same calls, so that no object
 * has more than the 512 calls for which the document says what they answer.
 */
final class Look {
    static final int MOST_CALLS = 512;
    private static final int FEWEST_ASKS = 16;

    private Look() { }

    static List<String> at(List<Call> run) {
        List<String> seen = new ArrayList<>();
        int steps = ask(run, List.of(new Call("count", 10)))[0];
        List<Call> back = new ArrayList<>(run);
        for (int undone = 0; undone <= steps; undone++) {
            see(seen, "after " + undone + " undos: ", back);
            back.add(new Call("undo"));
        }
        List<Call> told = new ArrayList<>(run);
        told.add(new Call("tell"));
        see(seen, "after tell: ", told);
        return seen;
    }

    private static void see(List<String> seen, String when, List<Call> run) {
        List<Call> asks = new ArrayList<>();
        each(asks, 12, what -> new Call("count", what));
        int[] counts = ask(run, asks);
        for (int k = 0; k <= counts[0]; k++) {
            int s = k;
            each(asks, 8, what -> new Call("of", s, what));
            asks.add(new Call("left", s));
            asks.add(new Call("plan", s, -1, 0));
        }
        for (int k = 0; k < 8; k++) {
            int x = k;
            each(asks, 6, what -> new Call("box", x, what));
            asks.add(new Call("unlisted", x));
        }
        rows(asks, "piece", counts[1], 3);
        rows(asks, "move", counts[2], 4);
        rows(asks, "listed", counts[4], 6);
        each(asks, counts[9] + 1, i -> new Call("paper", i));
        asks.add(new Call("fault"));
        int[] answers = ask(run, asks);
        for (int k = 0; k < answers.length; k++) {
            seen.add(when + asks.get(k) + " = " + answers[k]);
        }
    }

    private static void rows(List<Call> asks, String name, int size, int properties) {
        for (int k = 0; k <= size; k++) {
            int row = k;
            each(asks, properties, what -> new Call(name, row, what));
        }
    }

    private static void each(List<Call> asks, int end, java.util.function.IntFunction<Call> ask) {
        for (int k = 0; k < end; k++) {
            asks.add(ask.apply(k));
        }
    }

    private static int[] ask(List<Call> run, List<Call> asks) {
        int most = MOST_CALLS - run.size();
        if (most < FEWEST_ASKS) {
            throw new IllegalStateException("the run is too long to be looked at: " + run.size());
        }
        int[] answers = new int[asks.size()];
        BoxedPapers x = null;
        for (int k = 0; k < answers.length; k++) {
            if (k % most == 0) {
                x = new BoxedPapers();
                for (Call call : run) {
                    call.on(x);
                }
            }
            answers[k] = asks.get(k).on(x);
        }
        return answers;
    }
}
