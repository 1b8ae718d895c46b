/** Plans of actions that may be done side by side. */
public final class PlanLayers {
    public static final int BAD = -1;
    public static final int FULL = -2;
    public static final int NONE = -3;

    private static final int FACTS = 8;
    private static final int STATES = 256;
    private static final int MOST_ACTIONS = 7;
    private static final int ACTION_SETS = 128;
    private static final int MOST_LAYERS = 8;
    private static final int UNREACHED = 9;

    private final int[] needsOf = new int[MOST_ACTIONS];
    private final int[] gainsOf = new int[MOST_ACTIONS];
    private final int[] lossesOf = new int[MOST_ACTIONS];
    private int count;
    private int startState;

    // What follows is worked out anew by each call that reads it, so that no
    // change of the actions or of the start state can leave it out of date.
    private final int[] setNeeds = new int[ACTION_SETS];
    private final int[] setGains = new int[ACTION_SETS];
    private final int[] setLosses = new int[ACTION_SETS];
    private final boolean[] setClashes = new boolean[ACTION_SETS];
    private final int[] layersTo = new int[STATES];

    public PlanLayers() {
        count = 0;
        startState = 0;
    }

    public int action(int needs, int gains, int losses) {
        if (count >= MOST_ACTIONS) {
            return FULL;
        }
        if (!isFactSet(needs) || !isFactSet(gains) || !isFactSet(losses)) {
            return BAD;
        }
        needsOf[count] = needs;
        gainsOf[count] = gains;
        lossesOf[count] = losses;
        count++;
        return count - 1;
    }

    public int drop(int i) {
        if (!isAction(i)) {
            return BAD;
        }
        for (int j = i; j < count - 1; j++) {
            needsOf[j] = needsOf[j + 1];
            gainsOf[j] = gainsOf[j + 1];
            lossesOf[j] = lossesOf[j + 1];
        }
        count--;
        return count;
    }

    public boolean start(int set) {
        if (!isFactSet(set)) {
            return false;
        }
        startState = set;
        return true;
    }

    public boolean clash(int i, int j) {
        return isAction(i) && isAction(j) && i != j && eitherSpoils(i, j);
    }

    public int fewest(int goal) {
        if (!isFactSet(goal)) {
            return BAD;
        }
        measureFromStart();
        int least = leastLayers(goal);
        return least == UNREACHED ? NONE : least;
    }

    public int within(int k) {
        if (!isLayerCount(k)) {
            return BAD;
        }
        measureFromStart();
        int facts = 0;
        for (int state = 0; state < STATES; state++) {
            if (layersTo[state] <= k) {
                facts |= state;
            }
        }
        return facts;
    }

    public boolean together(int f, int g, int k) {
        if (!isFact(f) || !isFact(g) || !isLayerCount(k)) {
            return false;
        }
        measureFromStart();
        int both = (1 << f) | (1 << g);
        // Just k layers serve whatever fewer do: empty layers fill the plan up.
        int least = leastLayers(both);
        return least <= k;
    }

    public boolean begins(int goal, int i) {
        if (!isFactSet(goal) || !isAction(i)) {
            return false;
        }
        measureFromStart();
        int least = leastLayers(goal);
        if (least == 0 || least == UNREACHED) {
            return false;
        }
        measureAfterLayerWith(i);
        int rest = leastLayers(goal);
        return rest == least - 1;
    }

    public boolean advance(int layer) {
        if (layer < 0 || layer >= (1 << count)) {
            return false;
        }
        joinActionSets();
        if (!canBeLayer(layer, startState)) {
            return false;
        }
        startState = stateAfter(layer, startState);
        return true;
    }

    public int state() {
        return startState;
    }

    private static boolean isFactSet(int set) {
        return set >= 0 && set < STATES;
    }

    private static boolean isFact(int f) {
        return f >= 0 && f < FACTS;
    }

    private static boolean isLayerCount(int k) {
        return k >= 0 && k <= MOST_LAYERS;
    }

    private static boolean hasAll(int set, int part) {
        return (set & part) == part;
    }

    private static boolean hasAction(int set, int i) {
        return ((set >> i) & 1) != 0;
    }

    private boolean isAction(int i) {
        return i >= 0 && i < count;
    }

    private boolean eitherSpoils(int i, int j) {
        return (lossesOf[i] & (needsOf[j] | gainsOf[j])) != 0
            || (lossesOf[j] & (needsOf[i] | gainsOf[i])) != 0;
    }

    private void joinActionSets() {
        for (int set = 0; set < (1 << count); set++) {
            joinActionsOf(set);
            setClashes[set] = someTwoClash(set);
        }
    }

    private void joinActionsOf(int set) {
        int allNeeds = 0;
        int allGains = 0;
        int allLosses = 0;
        for (int i = 0; i < count; i++) {
            if (hasAction(set, i)) {
                allNeeds |= needsOf[i];
                allGains |= gainsOf[i];
                allLosses |= lossesOf[i];
            }
        }
        setNeeds[set] = allNeeds;
        setGains[set] = allGains;
        setLosses[set] = allLosses;
    }

    private boolean someTwoClash(int set) {
        for (int i = 0; i < count; i++) {
            for (int j = i + 1; j < count; j++) {
                if (hasAction(set, i) && hasAction(set, j) && eitherSpoils(i, j)) {
                    return true;
                }
            }
        }
        return false;
    }

    private boolean canBeLayer(int set, int before) {
        return !setClashes[set] && hasAll(before, setNeeds[set]);
    }

    // Gains come last, so a fact that one action both loses and gains is there.
    private int stateAfter(int set, int before) {
        return (before & ~setLosses[set]) | setGains[set];
    }

    private void measureFromStart() {
        joinActionSets();
        forgetStates();
        layersTo[startState] = 0;
        spread();
    }

    // Measures from all states that a first layer with action i can leave.
    private void measureAfterLayerWith(int i) {
        forgetStates();
        for (int set = 0; set < (1 << count); set++) {
            if (hasAction(set, i) && canBeLayer(set, startState)) {
                int after = stateAfter(set, startState);
                layersTo[after] = 0;
            }
        }
        spread();
    }

    private void forgetStates() {
        for (int state = 0; state < STATES; state++) {
            layersTo[state] = UNREACHED;
        }
    }

    private void spread() {
        for (int k = 0; k < MOST_LAYERS; k++) {
            for (int state = 0; state < STATES; state++) {
                if (layersTo[state] == k) {
                    reachFrom(state, k + 1);
                }
            }
        }
    }

    private void reachFrom(int before, int layers) {
        for (int set = 0; set < (1 << count); set++) {
            if (canBeLayer(set, before)) {
                int after = stateAfter(set, before);
                if (layersTo[after] > layers) {
                    layersTo[after] = layers;
                }
            }
        }
    }

    private int leastLayers(int goal) {
        int least = UNREACHED;
        for (int state = 0; state < STATES; state++) {
            if (hasAll(state, goal) && layersTo[state] < least) {
                least = layersTo[state];
            }
        }
        return least;
    }
}
