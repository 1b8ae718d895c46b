import java.util.ArrayList;
import java.util.LinkedHashMap;
import java.util.List;
import java.util.Map;
import java.util.function.Function;
import java.util.function.Supplier;

// Promise 12: a call that is refused changes nothing. Two objects are made alike, one
// of them is given the refused call, and then both must answer every probe alike.
public final class RefusalTests {
    private static final int BAD = PlanLayers.BAD;
    private static final int FULL = PlanLayers.FULL;
    private static final int NONE = PlanLayers.NONE;
    private static final int LEAST = Integer.MIN_VALUE;
    private static final int GREATEST = Integer.MAX_VALUE;

    private static int tests = 0;
    private static int wrong = 0;

    private static void tellWrong(String what) {
        wrong++;
        if (wrong <= 40) {
            System.out.println("[12: a refused call changes nothing] " + what);
        }
    }

    // What is asked of an object after the refused call. An object answers for 512
    // calls only, so the probes are in three lists, each for an object of its own.

    private static List<Integer> askPlans(PlanLayers x) {
        List<Integer> answers = new ArrayList<>();
        answers.add(x.state());
        for (int goal = 0; goal < 256; goal++) {
            answers.add(x.fewest(goal));
        }
        for (int k = 0; k <= 8; k++) {
            answers.add(x.within(k));
        }
        for (int i = 0; i < 7; i++) {
            for (int f = 0; f < 8; f++) {
                answers.add(x.begins(1 << f, i) ? 1 : 0);
            }
        }
        for (int f = 0; f < 8; f++) {
            for (int g = f; g < 8; g++) {
                answers.add(x.together(f, g, 8) ? 1 : 0);
            }
        }
        answers.add(x.state());
        return answers;
    }

    // Doing each action in the full state and in states that lack one fact tells its
    // needs and what it leaves; clash tells losses that its own gains hide.
    private static List<Integer> askActions(PlanLayers x) {
        List<Integer> answers = new ArrayList<>();
        for (int i = 0; i < 7; i++) {
            for (int j = 0; j < 7; j++) {
                answers.add(x.clash(i, j) ? 1 : 0);
            }
        }
        for (int i = 0; i < 7; i++) {
            for (int state : new int[] {255, 254, 253, 251, 247, 239, 223, 191, 127, 0}) {
                x.start(state);
                answers.add(x.advance(1 << i) ? 1 : 0);
                answers.add(x.state());
            }
        }
        return answers;
    }

    private static List<Integer> askCount(PlanLayers x) {
        List<Integer> answers = new ArrayList<>();
        answers.add(x.state());
        for (int n = 0; n < 8; n++) {
            answers.add(x.action(1, 2, 4));
        }
        answers.add(x.advance(127) ? 1 : 0);
        answers.add(x.state());
        for (int n = 0; n < 8; n++) {
            answers.add(x.drop(0));
            answers.add(x.within(8));
        }
        return answers;
    }

    private static Map<String, Supplier<PlanLayers>> objects() {
        Map<String, Supplier<PlanLayers>> objects = new LinkedHashMap<>();
        objects.put("a new object", PlanLayers::new);
        objects.put("no actions, start 90", () -> made(90));
        objects.put("one action", () -> made(1, 1, 2, 1));
        objects.put("five actions", () -> made(5, 1, 2, 1, 2, 4, 2, 4, 8, 4, 1, 16, 0, 16, 32, 16));
        objects.put("five actions, the state full",
            () -> made(255, 1, 2, 1, 2, 4, 2, 4, 8, 4, 1, 16, 0, 16, 32, 16));
        objects.put("six actions, one dropped", RefusalTests::afterDrop);
        objects.put("seven actions",
            () -> made(1, 1, 2, 1, 2, 4, 2, 4, 8, 4, 8, 16, 8, 16, 33, 16, 40, 64, 0, 0, 128, 128));
        return objects;
    }

    private static PlanLayers made(int start, int... facts) {
        PlanLayers x = new PlanLayers();
        for (int n = 0; n < facts.length; n += 3) {
            x.action(facts[n], facts[n + 1], facts[n + 2]);
        }
        x.start(start);
        return x;
    }

    // A question before the drop, so that answers kept from then would show.
    private static PlanLayers afterDrop() {
        PlanLayers x = made(3, 0, 4, 1, 4, 8, 0, 1, 16, 0, 255, 255, 255, 2, 32, 2, 8, 64, 4);
        x.begins(64, 0);
        x.drop(2);
        return x;
    }

    private static final int[] NO_FACT_SET = {-1, 256, -256, 257, 511, LEAST, GREATEST};
    private static final int[] NO_LAYER_COUNT = {-1, 9, 10, LEAST, GREATEST};
    private static final int[] NO_FACT = {-1, 8, 32, LEAST, GREATEST};

    private static int number(boolean answer) {
        return answer ? 1 : 0;
    }

    private record Refused(String call, int due, Function<PlanLayers, Integer> made) { }

    private static List<Refused> refusedActions(int count) {
        List<Refused> calls = new ArrayList<>();
        int due = count == 7 ? FULL : BAD;
        for (int bad : NO_FACT_SET) {
            calls.add(new Refused("action(" + bad + ", 1, 2)", due, x -> x.action(bad, 1, 2)));
            calls.add(new Refused("action(1, " + bad + ", 2)", due, x -> x.action(1, bad, 2)));
            calls.add(new Refused("action(1, 2, " + bad + ")", due, x -> x.action(1, 2, bad)));
        }
        if (count == 7) {
            calls.add(new Refused("action(0, 255, 0)", FULL, x -> x.action(0, 255, 0)));
            calls.add(new Refused("action(0, 0, 255)", FULL, x -> x.action(0, 0, 255)));
        }
        return calls;
    }

    private static int[] noActionAmong(int count) {
        return new int[] {-1, count, count + 1, 7, 8, 32, LEAST, GREATEST};
    }

    private static List<Refused> refusedChanges(int count) {
        List<Refused> calls = new ArrayList<>();
        for (int none : noActionAmong(count)) {
            calls.add(new Refused("drop(" + none + ")", BAD, x -> x.drop(none)));
        }
        for (int bad : NO_FACT_SET) {
            calls.add(new Refused("start(" + bad + ")", 0, x -> number(x.start(bad))));
        }
        for (int bad : new int[] {1 << count, (1 << count) + 1, 128, 255, 256, -1, -128, LEAST, GREATEST}) {
            calls.add(new Refused("advance(" + bad + ")", 0, x -> number(x.advance(bad))));
        }
        return calls;
    }

    private static List<Refused> refusedQuestions(int count) {
        List<Refused> calls = new ArrayList<>();
        for (int bad : NO_FACT_SET) {
            calls.add(new Refused("fewest(" + bad + ")", BAD, x -> x.fewest(bad)));
            calls.add(new Refused("begins(" + bad + ", 0)", 0, x -> number(x.begins(bad, 0))));
        }
        for (int bad : NO_LAYER_COUNT) {
            calls.add(new Refused("within(" + bad + ")", BAD, x -> x.within(bad)));
            calls.add(new Refused("together(0, 0, " + bad + ")", 0, x -> number(x.together(0, 0, bad))));
        }
        for (int bad : NO_FACT) {
            calls.add(new Refused("together(" + bad + ", 0, 8)", 0, x -> number(x.together(bad, 0, 8))));
            calls.add(new Refused("together(0, " + bad + ", 8)", 0, x -> number(x.together(0, bad, 8))));
        }
        for (int none : noActionAmong(count)) {
            calls.add(new Refused("begins(2, " + none + ")", 0, x -> number(x.begins(2, none))));
            calls.add(new Refused("clash(0, " + none + ")", 0, x -> number(x.clash(0, none))));
            calls.add(new Refused("clash(" + none + ", 0)", 0, x -> number(x.clash(none, 0))));
            calls.add(new Refused("clash(" + none + ", " + none + ")", 0, x -> number(x.clash(none, none))));
        }
        return calls;
    }

    // Layers that are sets of actions, but clash or can't be done, in one of the objects.
    private static Map<String, int[]> refusedLayers() {
        Map<String, int[]> layers = new LinkedHashMap<>();
        layers.put("five actions", new int[] {2, 3, 7, 8 + 1, 16, 31});
        layers.put("five actions, the state full", new int[] {3, 6, 8 + 1, 8 + 16, 31});
        layers.put("six actions, one dropped", new int[] {2, 4, 8 + 2, 16, 31});
        layers.put("seven actions", new int[] {2, 3, 32, 64 + 2, 127});
        return layers;
    }

    private static int countOf(PlanLayers x) {
        return x.action(0, 0, 0) == FULL ? 7 : x.drop(0);
    }

    private static void compare(String what, List<Integer> got, List<Integer> want) {
        for (int n = 0; n < want.size(); n++) {
            if (!got.get(n).equals(want.get(n))) {
                tellWrong(what + ": probe " + n + " answered " + got.get(n) + ", without the call " + want.get(n));
                return;
            }
        }
    }

    // Thrice, so that something used up bit by bit shows as well.
    private static PlanLayers afterRefusal(String what, PlanLayers x, Refused refused) {
        for (int n = 0; n < 3; n++) {
            int answer = refused.made().apply(x);
            if (answer != refused.due()) {
                tellWrong(what + " answered " + answer + ", due is " + refused.due());
            }
        }
        return x;
    }

    private static void test(String name, Supplier<PlanLayers> object, Refused refused) {
        String what = name + ", " + refused.call();
        tests++;
        try {
            compare(what, askPlans(afterRefusal(what, object.get(), refused)), askPlans(object.get()));
            compare(what, askActions(afterRefusal(what, object.get(), refused)), askActions(object.get()));
            compare(what, askCount(afterRefusal(what, object.get(), refused)), askCount(object.get()));
        } catch (RuntimeException e) {
            tellWrong(what + ": a call threw " + e);
        }
    }

    public static void main(String[] args) {
        objects().forEach((name, object) -> {
            int count = countOf(object.get());
            List<Refused> calls = new ArrayList<>();
            calls.addAll(refusedActions(count));
            calls.addAll(refusedChanges(count));
            calls.addAll(refusedQuestions(count));
            for (int layer : refusedLayers().getOrDefault(name, new int[0])) {
                calls.add(new Refused("advance(" + layer + ")", 0, x -> number(x.advance(layer))));
            }
            if (name.equals("seven actions")) {
                calls.add(new Refused("fewest(64)", NONE, x -> x.fewest(64)));
                calls.add(new Refused("begins(64, 0)", 0, x -> number(x.begins(64, 0))));
            }
            for (Refused refused : calls) {
                test(name, object, refused);
            }
        });
        System.out.println(tests + " refused calls tested, " + wrong + " things are not as due");
        if (wrong != 0) {
            System.exit(1);
        }
    }
}
