import java.util.ArrayList;
import java.util.List;
import java.util.Random;
import java.util.Set;
import java.util.TreeSet;

// Compares long runs of mixed calls with a second program, Oracle, that follows the
// document's terms word by word: layers are lists of actions, and plans of just k
// layers are counted out for each k. The seed is fixed, so every run is the same.
public final class OracleTests {
    private static final int OBJECTS = 400;
    private static final int CALLS = 150;
    private static int wrong = 0;

    private static final class Oracle {
        private final List<int[]> actions = new ArrayList<>();
        private int start = 0;

        int action(int needs, int gains, int losses) {
            if (actions.size() == 7) {
                return -2;
            }
            if (outside(needs, 255) || outside(gains, 255) || outside(losses, 255)) {
                return -1;
            }
            actions.add(new int[] {needs, gains, losses});
            return actions.size() - 1;
        }

        int drop(int i) {
            if (!there(i)) {
                return -1;
            }
            actions.remove(i);
            return actions.size();
        }

        boolean start(int set) {
            if (outside(set, 255)) {
                return false;
            }
            start = set;
            return true;
        }

        boolean clash(int i, int j) {
            return there(i) && there(j) && i != j && (spoils(i, j) || spoils(j, i));
        }

        int fewest(int goal) {
            if (outside(goal, 255)) {
                return -1;
            }
            for (int k = 0; k <= 8; k++) {
                if (serves(statesAfter(start, k), goal)) {
                    return k;
                }
            }
            return -3;
        }

        int within(int k) {
            if (outside(k, 8)) {
                return -1;
            }
            int facts = 0;
            for (int f = 0; f < 8; f++) {
                for (int layers = 0; layers <= k; layers++) {
                    if (serves(statesAfter(start, layers), 1 << f)) {
                        facts |= 1 << f;
                    }
                }
            }
            return facts;
        }

        boolean together(int f, int g, int k) {
            if (outside(f, 7) || outside(g, 7) || outside(k, 8)) {
                return false;
            }
            return serves(statesAfter(start, k), (1 << f) | (1 << g));
        }

        boolean begins(int goal, int i) {
            int least = fewest(goal);
            if (least <= 0 || !there(i)) {
                return false;
            }
            for (List<Integer> layer : layersIn(start)) {
                if (layer.contains(i) && serves(statesAfter(after(start, layer), least - 1), goal)) {
                    return true;
                }
            }
            return false;
        }

        boolean advance(int layer) {
            for (List<Integer> possible : layersIn(start)) {
                int number = 0;
                for (int i : possible) {
                    number += 1 << i;
                }
                if (number == layer) {
                    start = after(start, possible);
                    return true;
                }
            }
            return false;
        }

        private static boolean outside(int n, int last) {
            return n < 0 || n > last;
        }

        private boolean there(int i) {
            return i >= 0 && i < actions.size();
        }

        private boolean spoils(int i, int j) {
            for (int f = 0; f < 8; f++) {
                boolean lost = (actions.get(i)[2] >> f) % 2 == 1;
                boolean needed = (actions.get(j)[0] >> f) % 2 == 1;
                boolean gained = (actions.get(j)[1] >> f) % 2 == 1;
                if (lost && (needed || gained)) {
                    return true;
                }
            }
            return false;
        }

        // Grows the layers action by action: each one either stays out or joins
        // those that it doesn't clash with.
        private List<List<Integer>> layersIn(int state) {
            List<List<Integer>> layers = new ArrayList<>();
            layers.add(new ArrayList<>());
            for (int i = 0; i < actions.size(); i++) {
                if ((actions.get(i)[0] & ~state) != 0) {
                    continue;
                }
                int before = layers.size();
                for (int n = 0; n < before; n++) {
                    boolean fits = true;
                    for (int j : layers.get(n)) {
                        fits = fits && !clash(i, j);
                    }
                    if (fits) {
                        List<Integer> grown = new ArrayList<>(layers.get(n));
                        grown.add(i);
                        layers.add(grown);
                    }
                }
            }
            return layers;
        }

        private int after(int state, List<Integer> layer) {
            int after = state;
            for (int i : layer) {
                after &= ~actions.get(i)[2];
            }
            for (int i : layer) {
                after |= actions.get(i)[1];
            }
            return after;
        }

        private Set<Integer> statesAfter(int from, int layers) {
            Set<Integer> states = new TreeSet<>();
            states.add(from);
            for (int k = 0; k < layers; k++) {
                Set<Integer> next = new TreeSet<>();
                for (int state : states) {
                    for (List<Integer> layer : layersIn(state)) {
                        next.add(after(state, layer));
                    }
                }
                states = next;
            }
            return states;
        }

        private static boolean serves(Set<Integer> states, int goal) {
            for (int state : states) {
                if ((state & goal) == goal) {
                    return true;
                }
            }
            return false;
        }
    }

    private static void same(String call, Object got, Object want) {
        if (!got.equals(want)) {
            wrong++;
            if (wrong <= 20) {
                System.out.println(call + " answered " + got + ", due is " + want);
            }
        }
    }

    private static final int[] ODD = {-1, -2, -256, 7, 8, 9, 31, 32, 127, 128, 255, 256, 257,
        Integer.MAX_VALUE, Integer.MIN_VALUE};

    // Mostly a number from 0 to last, now and then one that is on an edge or far off.
    private static int number(Random random, int last) {
        return random.nextInt(12) == 0 ? ODD[random.nextInt(ODD.length)] : random.nextInt(last + 1);
    }

    // Few facts at a time: full sets would clash nearly always and be reached nearly never.
    private static int facts(Random random, int most) {
        if (random.nextInt(25) == 0) {
            return ODD[random.nextInt(ODD.length)];
        }
        int set = 0;
        int n = random.nextInt(most + 1);
        for (int i = 0; i < n; i++) {
            set |= 1 << random.nextInt(8);
        }
        return set;
    }

    // Half of the actions move a fact to its neighbour, which makes long plans.
    private static int[] newAction(Random random) {
        if (random.nextInt(2) == 0) {
            int f = random.nextInt(8);
            return new int[] {1 << f, 1 << ((f + 1) % 8), 1 << f};
        }
        return new int[] {facts(random, 2), facts(random, 2), facts(random, 2)};
    }

    private static void compare(PlanLayers x, Oracle o, Random random, String run) {
        int last = Math.max(o.actions.size() - 1, 0);
        switch (random.nextInt(16)) {
            case 0, 1, 2 -> {
                int[] a = newAction(random);
                same(run + "action(" + a[0] + ", " + a[1] + ", " + a[2] + ")",
                    x.action(a[0], a[1], a[2]), o.action(a[0], a[1], a[2]));
            }
            case 3 -> {
                int i = number(random, last);
                same(run + "drop(" + i + ")", x.drop(i), o.drop(i));
            }
            case 4 -> {
                int set = facts(random, 4);
                same(run + "start(" + set + ")", x.start(set), o.start(set));
            }
            case 5, 6 -> {
                int i = number(random, last);
                int j = number(random, last);
                same(run + "clash(" + i + ", " + j + ")", x.clash(i, j), o.clash(i, j));
            }
            case 7, 8 -> {
                int goal = facts(random, 3);
                same(run + "fewest(" + goal + ")", x.fewest(goal), o.fewest(goal));
            }
            case 9 -> {
                int k = number(random, 8);
                same(run + "within(" + k + ")", x.within(k), o.within(k));
            }
            case 10, 11 -> {
                int f = number(random, 7);
                int g = number(random, 7);
                int k = number(random, 8);
                same(run + "together(" + f + ", " + g + ", " + k + ")", x.together(f, g, k), o.together(f, g, k));
            }
            case 12, 13 -> {
                int goal = facts(random, 3);
                int i = number(random, last);
                same(run + "begins(" + goal + ", " + i + ")", x.begins(goal, i), o.begins(goal, i));
            }
            default -> {
                int layer = random.nextBoolean() ? 1 << random.nextInt(last + 1) : number(random, 127);
                same(run + "advance(" + layer + ")", x.advance(layer), o.advance(layer));
            }
        }
        same(run + "state()", x.state(), o.start);
    }

    public static void main(String[] args) {
        for (int n = 0; n < OBJECTS; n++) {
            Random random = new Random(n);
            PlanLayers x = new PlanLayers();
            Oracle o = new Oracle();
            for (int call = 0; call < CALLS; call++) {
                compare(x, o, random, "object " + n + ", step " + call + ": ");
            }
        }
        System.out.println(wrong == 0 ? "both programs agree" : wrong + " answers differ");
        if (wrong != 0) {
            System.exit(1);
        }
    }
}
