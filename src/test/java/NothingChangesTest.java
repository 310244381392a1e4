import java.util.ArrayList;
import java.util.LinkedHashMap;
import java.util.List;
import java.util.Map;
import java.util.function.Supplier;
import java.util.function.ToLongFunction;

/**
 * "No question changes anything. A refused call changes nothing.": after each such call, made on a
 * new object, the list is read again and every question is asked again.
 */
final class NothingChangesTest {
    private static final int LEAST = Integer.MIN_VALUE;
    private static final int MOST = Integer.MAX_VALUE;

    public static void main(String[] args) {
        for (Map.Entry<String, Supplier<FourierMotzkin>> state : states().entrySet()) {
            Supplier<FourierMotzkin> maker = state.getValue();
            int count = maker.get().bounds();
            Checks.sentence("A refused call changes nothing");
            for (Map.Entry<String, ToLongFunction<FourierMotzkin>> call : refused(count).entrySet()) {
                String what = state.getKey() + ": " + call.getKey();
                long answer = call.getValue().applyAsLong(maker.get());
                Checks.due(what + " is refused", isRefusal(call.getKey(), answer) ? 1 : 0, 1);
                nothingChanges(what, maker, call.getValue());
            }
            Checks.sentence("No question changes anything");
            for (Map.Entry<String, ToLongFunction<FourierMotzkin>> call : questions(count).entrySet()) {
                nothingChanges(state.getKey() + ": " + call.getKey(), maker, call.getValue());
            }
            Checks.sentence("No question changes anything (all of them, one after another)");
            Checks.due(state.getKey(), answersTwice(maker.get()), answers(maker.get()));
        }
        Checks.finish();
    }

    private static Map<String, Supplier<FourierMotzkin>> states() {
        Map<String, Supplier<FourierMotzkin>> states = new LinkedHashMap<>();
        states.put("new", FourierMotzkin::new);
        states.put("one bound", () -> Bodies.of(Bodies.slope(3, 2, -1), 4));
        states.put("empty", Bodies::nothing);
        states.put("one point", Bodies::halfPoint);
        states.put("a sliver", Bodies::sliver);
        states.put("full", Bodies::full);
        states.put("full and empty", Bodies::fullAndEmpty);
        states.put("full, one taken", () -> {
            FourierMotzkin body = Bodies.full();
            body.remove(3);
            return body;
        });
        return states;
    }

    private static void nothingChanges(String what, Supplier<FourierMotzkin> maker,
            ToLongFunction<FourierMotzkin> call) {
        Supplier<FourierMotzkin> after = () -> {
            FourierMotzkin body = maker.get();
            call.applyAsLong(body);
            return body;
        };
        Checks.due(what + ", the list", Listing.of(after), Listing.of(maker));
        Checks.due(what + ", the answers", answers(after.get()), answers(maker.get()));
    }

    /** A refusal is below nought, but 0 where a denominator is asked for. */
    private static boolean isRefusal(String call, long answer) {
        return call.contains("Bottom") ? answer == 0 : answer < 0;
    }

    private static Map<String, ToLongFunction<FourierMotzkin>> refused(int count) {
        Map<String, ToLongFunction<FourierMotzkin>> calls = new LinkedHashMap<>();
        refusedChanges(calls, count);
        int[] axes = {-1, 3, LEAST, MOST};
        for (int axis : axes) {
            calls.put("mostTop(" + axis + ")", body -> body.mostTop(axis));
            calls.put("mostBottom(" + axis + ")", body -> body.mostBottom(axis));
            calls.put("leastTop(" + axis + ")", body -> body.leastTop(axis));
            calls.put("leastBottom(" + axis + ")", body -> body.leastBottom(axis));
            calls.put("shadow(" + axis + ", 0, 0, 1)", body -> body.shadow(axis, 0, 0, 1));
            calls.put("shadowGrid(" + axis + ")", body -> body.shadowGrid(axis));
        }
        int[] slopes = {-1, 729, LEAST, MOST};
        for (int slope : slopes) {
            calls.put("follows(" + slope + ", 0)", body -> body.follows(slope, 0));
            calls.put("support(" + slope + ")", body -> body.support(slope));
        }
        int[] limits = {-1001, 1001, LEAST, MOST};
        for (int d : limits) {
            calls.put("follows(0, " + d + ")", body -> body.follows(0, d));
        }
        int[] bounds = {-1, count, LEAST, MOST};
        for (int bound : bounds) {
            calls.put("redundant(" + bound + ")", body -> body.redundant(bound));
        }
        int[] scales = {0, 21, LEAST, MOST};
        for (int k : scales) {
            calls.put("has(0, 0, 0, " + k + ")", body -> body.has(0, 0, 0, k));
            calls.put("shadow(1, 0, 0, " + k + ")", body -> body.shadow(1, 0, 0, k));
        }
        int[] coordinates = {-401, 401, LEAST, MOST};
        for (int far : coordinates) {
            calls.put("has(" + far + ", 0, 0, 1)", body -> body.has(far, 0, 0, 1));
            calls.put("has(0, " + far + ", 0, 1)", body -> body.has(0, far, 0, 1));
            calls.put("has(0, 0, " + far + ", 1)", body -> body.has(0, 0, far, 1));
            calls.put("shadow(2, " + far + ", 0, 1)", body -> body.shadow(2, far, 0, 1));
            calls.put("shadow(2, 0, " + far + ", 1)", body -> body.shadow(2, 0, far, 1));
        }
        return calls;
    }

    private static void refusedChanges(Map<String, ToLongFunction<FourierMotzkin>> calls, int count) {
        int[] slopes = {-1, 729, LEAST, MOST};
        for (int slope : slopes) {
            calls.put("add(" + slope + ", 5)", body -> body.add(slope, 5));
            calls.put("add(" + slope + ", 41)", body -> body.add(slope, 41));
        }
        int[] limits = {-41, 41, LEAST, MOST};
        for (int d : limits) {
            calls.put("add(445, " + d + ")", body -> body.add(445, d));
            for (int bound = 0; bound < count; bound++) {
                int moved = bound;
                calls.put("move(" + moved + ", " + d + ")", body -> body.move(moved, d));
            }
        }
        int[] bounds = {-1, count, count + 1, LEAST, MOST};
        for (int bound : bounds) {
            calls.put("remove(" + bound + ")", body -> body.remove(bound));
            calls.put("move(" + bound + ", -5)", body -> body.move(bound, -5));
            calls.put("move(" + bound + ", 41)", body -> body.move(bound, 41));
        }
        if (count == 7) {
            calls.put("add(445, -11)", body -> body.add(445, -11));
            calls.put("add(364, 0)", body -> body.add(364, 0));
        }
    }

    private static Map<String, ToLongFunction<FourierMotzkin>> questions(int count) {
        Map<String, ToLongFunction<FourierMotzkin>> calls = new LinkedHashMap<>();
        calls.put("bounds()", FourierMotzkin::bounds);
        calls.put("empty()", FourierMotzkin::empty);
        calls.put("single()", FourierMotzkin::single);
        for (int bound = 0; bound < count; bound++) {
            int asked = bound;
            calls.put("redundant(" + asked + ")", body -> body.redundant(asked));
        }
        for (int axis = 0; axis < 3; axis++) {
            int asked = axis;
            calls.put("mostTop(" + asked + ")", body -> body.mostTop(asked));
            calls.put("mostBottom(" + asked + ")", body -> body.mostBottom(asked));
            calls.put("leastTop(" + asked + ")", body -> body.leastTop(asked));
            calls.put("leastBottom(" + asked + ")", body -> body.leastBottom(asked));
            calls.put("shadow(" + asked + ", 1, -1, 2)", body -> body.shadow(asked, 1, -1, 2));
            calls.put("shadow(" + asked + ", 400, 400, 20)", body -> body.shadow(asked, 400, 400, 20));
            calls.put("shadowGrid(" + asked + ")", body -> body.shadowGrid(asked));
        }
        int[] slopes = {0, 364, 500, 728};
        for (int slope : slopes) {
            calls.put("follows(" + slope + ", -1000)", body -> body.follows(slope, -1000));
            calls.put("follows(" + slope + ", 3)", body -> body.follows(slope, 3));
            calls.put("support(" + slope + ")", body -> body.support(slope));
        }
        calls.put("has(1, 1, 1, 2)", body -> body.has(1, 1, 1, 2));
        calls.put("has(400, -400, 400, 20)", body -> body.has(400, -400, 400, 20));
        return calls;
    }

    private static String answers(FourierMotzkin body) {
        List<Long> answers = new ArrayList<>();
        for (ToLongFunction<FourierMotzkin> question : questions(7).values()) {
            answers.add(question.applyAsLong(body));
        }
        return answers.toString();
    }

    private static String answersTwice(FourierMotzkin body) {
        answers(body);
        return answers(body);
    }
}
