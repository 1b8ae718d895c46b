// One method for each promise of the document; every due answer is worked out by hand.
public final class PromiseTests {
    private static int wrong = 0;
    private static int promise = 0;

    private static void due(String what, int got, int want) {
        if (got != want) {
            wrong++;
            System.out.println("promise " + promise + ": " + what + " answered " + got + ", due is " + want);
        }
    }

    private static void due(String what, boolean got, boolean want) {
        if (got != want) {
            wrong++;
            System.out.println("promise " + promise + ": " + what + " answered " + got + ", due is " + want);
        }
    }

    private static final int[] OUTSIDE = {-1, 256, 257, 512, Integer.MAX_VALUE, Integer.MIN_VALUE};
    private static final int[] NO_LAYER_COUNT = {-1, 9, 10, 32, Integer.MAX_VALUE, Integer.MIN_VALUE};
    private static final int[] NO_FACT = {-1, 8, 9, 31, 32, 33, Integer.MAX_VALUE, Integer.MIN_VALUE};

    // A token goes 0, 1, 2, 3, 4 and back to 0, and the way back leaves the mark 5;
    // the mark with the token on 3 gives 6. From {0} the state after 5 layers can be
    // {0, 5}, so {3, 5} takes 8 layers, {4, 5} and {6} take 9.
    private static PlanLayers lap() {
        PlanLayers x = new PlanLayers();
        x.action(1, 2, 1);
        x.action(2, 4, 2);
        x.action(4, 8, 4);
        x.action(8, 16, 8);
        x.action(16, 33, 16);
        x.action(40, 64, 0);
        x.start(1);
        return x;
    }

    private static PlanLayers seven() {
        PlanLayers x = new PlanLayers();
        for (int i = 0; i < 7; i++) {
            x.action(0, 1 << i, 0);
        }
        return x;
    }

    private static void newObject() {
        promise = 1;
        due("state()", new PlanLayers().state(), 0);
        due("drop(0)", new PlanLayers().drop(0), -1);
        due("action(0, 0, 0)", new PlanLayers().action(0, 0, 0), 0);
        due("advance(1)", new PlanLayers().advance(1), false);
        due("advance(0)", new PlanLayers().advance(0), true);
        due("within(8)", new PlanLayers().within(8), 0);
        due("fewest(0)", new PlanLayers().fewest(0), 0);
        for (int f = 0; f < 8; f++) {
            due("fewest of fact " + f, new PlanLayers().fewest(1 << f), -3);
        }
        PlanLayers one = new PlanLayers();
        PlanLayers other = new PlanLayers();
        one.action(0, 1, 0);
        one.start(7);
        due("the other object's state()", other.state(), 0);
        due("the other object's action", other.action(0, 0, 0), 0);
        due("BAD", PlanLayers.BAD, -1);
        due("FULL", PlanLayers.FULL, -2);
        due("NONE", PlanLayers.NONE, -3);
    }

    private static void action() {
        promise = 2;
        PlanLayers x = new PlanLayers();
        for (int bad : OUTSIDE) {
            due("action(" + bad + ", 0, 0)", x.action(bad, 0, 0), -1);
            due("action(0, " + bad + ", 0)", x.action(0, bad, 0), -1);
            due("action(0, 0, " + bad + ")", x.action(0, 0, bad), -1);
        }
        due("action(255, 255, 255)", x.action(255, 255, 255), 0);
        due("action(0, 0, 0)", x.action(0, 0, 0), 1);
        for (int i = 2; i < 7; i++) {
            due("action(0, 0, 0)", x.action(0, 0, 0), i);
        }
        due("an eighth action", x.action(0, 0, 0), -2);
        for (int bad : OUTSIDE) {
            due("an eighth action that is bad too", x.action(bad, bad, bad), -2);
        }
        due("drop(6)", x.drop(6), 6);
        due("action after drop", x.action(0, 0, 0), 6);
        due("an eighth action", x.action(0, 0, 0), -2);

        // Each of the three sets goes where it belongs.
        PlanLayers y = new PlanLayers();
        y.action(1, 2, 4);
        y.start(4);
        due("advance without the need", y.advance(1), false);
        y.start(13);
        due("advance with the need", y.advance(1), true);
        due("state()", y.state(), 11);
    }

    private static void drop() {
        promise = 3;
        PlanLayers x = seven();
        due("drop(7)", x.drop(7), -1);
        due("drop(-1)", x.drop(-1), -1);
        due("drop of the least int", x.drop(Integer.MIN_VALUE), -1);
        due("drop of the greatest int", x.drop(Integer.MAX_VALUE), -1);
        due("drop(2)", x.drop(2), 6);
        due("drop(6)", x.drop(6), -1);
        for (int i = 0; i < 6; i++) {
            x.start(0);
            due("advance with action " + i, x.advance(1 << i), true);
            due("state() after action " + i, x.state(), 1 << (i < 2 ? i : i + 1));
        }
        due("advance(64)", x.advance(64), false);
        due("drop(0)", x.drop(0), 5);
        due("drop(4)", x.drop(4), 4);
        x.start(0);
        due("within(1)", x.within(1), 2 + 8 + 16 + 32);
        for (int left = 3; left >= 0; left--) {
            due("drop(0)", x.drop(0), left);
        }
        due("drop(0)", x.drop(0), -1);
        due("within(8)", x.within(8), 0);

        // Needs and losses move down with their action.
        PlanLayers y = new PlanLayers();
        y.action(0, 0, 0);
        y.action(1, 2, 4);
        y.action(8, 0, 2);
        due("clash(1, 2)", y.clash(1, 2), true);
        y.drop(0);
        due("clash(0, 1)", y.clash(0, 1), true);
        due("clash(1, 2)", y.clash(1, 2), false);
        y.start(4);
        due("advance(1)", y.advance(1), false);
        y.start(5);
        due("advance(1)", y.advance(1), true);
        due("state()", y.state(), 3);
    }

    private static void start() {
        promise = 4;
        PlanLayers x = new PlanLayers();
        for (int set = 0; set < 256; set++) {
            due("start(" + set + ")", x.start(set), true);
            due("state()", x.state(), set);
        }
        PlanLayers y = new PlanLayers();
        y.start(90);
        for (int bad : OUTSIDE) {
            due("start(" + bad + ")", y.start(bad), false);
            due("state()", y.state(), 90);
        }
        due("fewest(90)", y.fewest(90), 0);
        due("start(0)", y.start(0), true);
        due("fewest(90)", y.fewest(90), -3);
    }

    private static void clashOf(String what, int[] a, int[] b, boolean want) {
        PlanLayers x = new PlanLayers();
        x.action(a[0], a[1], a[2]);
        x.action(b[0], b[1], b[2]);
        due("clash(0, 1), " + what, x.clash(0, 1), want);
        due("clash(1, 0), " + what, x.clash(1, 0), want);
        due("clash(0, 0), " + what, x.clash(0, 0), false);
        due("clash(1, 1), " + what, x.clash(1, 1), false);
        for (int none : new int[] {-1, 2, 7, 8, Integer.MAX_VALUE, Integer.MIN_VALUE}) {
            due("clash(0, " + none + "), " + what, x.clash(0, none), false);
            due("clash(" + none + ", 0), " + what, x.clash(none, 0), false);
            due("clash(" + none + ", " + none + "), " + what, x.clash(none, none), false);
        }
    }

    private static void clash() {
        promise = 5;
        clashOf("a loss is the other's need", new int[] {0, 0, 128}, new int[] {128, 0, 0}, true);
        clashOf("a loss is the other's gain", new int[] {0, 0, 128}, new int[] {0, 128, 0}, true);
        clashOf("both lose the same", new int[] {0, 0, 1}, new int[] {0, 0, 1}, false);
        clashOf("both need the same", new int[] {1, 0, 0}, new int[] {1, 0, 0}, false);
        clashOf("both gain the same", new int[] {0, 1, 0}, new int[] {0, 1, 0}, false);
        clashOf("a gain is the other's need", new int[] {0, 1, 0}, new int[] {1, 0, 0}, false);
        clashOf("each spoils itself alone", new int[] {1, 2, 3}, new int[] {4, 8, 12}, false);
        clashOf("the same action twice", new int[] {1, 2, 1}, new int[] {1, 2, 1}, true);
        clashOf("one fact of many", new int[] {3, 12, 112}, new int[] {64, 128, 0}, true);
        clashOf("nothing at all", new int[] {0, 0, 0}, new int[] {255, 255, 255}, false);

        PlanLayers x = new PlanLayers();
        x.action(1, 2, 1);
        x.action(1, 2, 1);
        due("clash(0, 1)", x.clash(0, 1), true);
        x.drop(1);
        due("clash(0, 1) after drop", x.clash(0, 1), false);
        due("clash(1, 0) after drop", x.clash(1, 0), false);
    }

    private static void fewest() {
        promise = 6;
        PlanLayers x = lap();
        due("fewest(0)", x.fewest(0), 0);
        due("fewest(1)", x.fewest(1), 0);
        due("fewest(2)", x.fewest(2), 1);
        due("fewest(4)", x.fewest(4), 2);
        due("fewest(16)", x.fewest(16), 4);
        due("fewest(32)", x.fewest(32), 5);
        due("fewest(36)", x.fewest(36), 7);
        due("fewest(40)", x.fewest(40), 8);
        due("fewest(48), of 9 layers", x.fewest(48), -3);
        due("fewest(64), of 9 layers", x.fewest(64), -3);
        due("fewest(3)", x.fewest(3), -3);
        due("fewest(255)", x.fewest(255), -3);
        for (int bad : OUTSIDE) {
            due("fewest(" + bad + ")", x.fewest(bad), -1);
        }
        x.start(2);
        due("fewest(64) from one step on", x.fewest(64), 8);

        due("side by side: fewest(127)", seven().fewest(127), 1);

        // Both are wanted, each loses what the other needs: they can't share a layer,
        // and the second one can't be done after the first.
        PlanLayers y = new PlanLayers();
        y.action(1, 4, 2);
        y.action(2, 8, 1);
        y.start(3);
        due("fewest(4)", y.fewest(4), 1);
        due("fewest(8)", y.fewest(8), 1);
        due("fewest(12)", y.fewest(12), -3);
        // Now one order works.
        y.action(0, 2, 0);
        due("fewest(12) with the loss made good", y.fewest(12), 3);

        // A need must be there before the layer, not come with it.
        PlanLayers z = new PlanLayers();
        z.action(0, 1, 0);
        z.action(1, 2, 0);
        due("fewest(2)", z.fewest(2), 2);
        due("state() is as it was", z.state(), 0);
    }

    private static void within() {
        promise = 7;
        PlanLayers x = lap();
        int[] facts = {1, 3, 7, 15, 31, 63, 63, 63, 63};
        for (int k = 0; k <= 8; k++) {
            due("within(" + k + ")", x.within(k), facts[k]);
        }
        for (int bad : NO_LAYER_COUNT) {
            due("within(" + bad + ")", x.within(bad), -1);
        }
        x.start(2);
        due("within(7) from one step on", x.within(7), 63);
        due("within(8) from one step on", x.within(8), 127);

        // Each fact by itself: 1 and 2 are never there together.
        PlanLayers y = new PlanLayers();
        y.action(1, 2, 1);
        y.action(1, 4, 1);
        y.start(1);
        due("within(0)", y.within(0), 1);
        due("within(1)", y.within(1), 7);
        due("fewest(6)", y.fewest(6), -3);
        due("state() is as it was", y.state(), 1);
    }

    private static void together() {
        promise = 8;
        PlanLayers x = lap();
        due("together(3, 5, 7)", x.together(3, 5, 7), false);
        due("together(3, 5, 8)", x.together(3, 5, 8), true);
        due("together(5, 3, 8)", x.together(5, 3, 8), true);
        due("together(4, 5, 8)", x.together(4, 5, 8), false);
        due("together(6, 6, 8)", x.together(6, 6, 8), false);
        due("together(0, 0, 0)", x.together(0, 0, 0), true);
        due("together(1, 1, 0)", x.together(1, 1, 0), false);
        due("together(1, 1, 1)", x.together(1, 1, 1), true);
        due("together(0, 1, 1)", x.together(0, 1, 1), false);
        // Empty layers make a plan of just k layers out of a shorter one.
        for (int k = 1; k <= 8; k++) {
            due("together(0, 0, " + k + ")", x.together(0, 0, k), true);
            due("together(1, 1, " + k + ")", x.together(1, 1, k), true);
        }
        x.start(255);
        for (int bad : NO_FACT) {
            due("together(" + bad + ", 0, 1)", x.together(bad, 0, 1), false);
            due("together(0, " + bad + ", 1)", x.together(0, bad, 1), false);
        }
        for (int bad : NO_LAYER_COUNT) {
            due("together(0, 1, " + bad + ")", x.together(0, 1, bad), false);
        }
        due("together(0, 7, 0)", x.together(0, 7, 0), true);
        due("together(7, 0, 8)", x.together(7, 0, 8), true);
        due("state() is as it was", x.state(), 255);
    }

    private static void begins() {
        promise = 9;
        PlanLayers x = lap();
        due("begins(40, 0), of 8 layers", x.begins(40, 0), true);
        for (int i = 1; i < 6; i++) {
            due("begins(40, " + i + ")", x.begins(40, i), false);
        }
        due("begins(64, 0), of 9 layers", x.begins(64, 0), false);
        due("begins(48, 0), of 9 layers", x.begins(48, 0), false);
        due("begins(1, 0), of 0 layers", x.begins(1, 0), false);
        due("begins(0, 0), of 0 layers", x.begins(0, 0), false);
        for (int bad : OUTSIDE) {
            due("begins(" + bad + ", 0)", x.begins(bad, 0), false);
        }
        for (int none : new int[] {-1, 6, 7, 31, 32, Integer.MAX_VALUE, Integer.MIN_VALUE}) {
            due("begins(40, " + none + ")", x.begins(40, none), false);
        }
        due("state() is as it was", x.state(), 1);

        // An idle action may stand beside the useful one, but not one that clashes with it.
        PlanLayers y = new PlanLayers();
        y.action(1, 2, 0);
        y.action(1, 64, 0);
        y.action(0, 0, 1);
        y.action(2, 4, 0);
        y.action(0, 0, 2);
        y.start(1);
        due("begins(2, 0)", y.begins(2, 0), true);
        due("begins(2, 1), idle", y.begins(2, 1), true);
        due("begins(2, 2), clashes", y.begins(2, 2), false);
        due("begins(4, 0)", y.begins(4, 0), true);
        due("begins(4, 3), done later", y.begins(4, 3), false);
        due("begins(4, 4), clashes", y.begins(4, 4), false);
        // A plan that is longer than the fewest doesn't count.
        due("begins(64, 0), beside", y.begins(64, 0), true);
        due("begins(64, 2)", y.begins(64, 2), false);

        // Either of two ways may begin.
        PlanLayers z = new PlanLayers();
        z.action(1, 2, 1);
        z.action(1, 4, 1);
        z.action(2, 8, 2);
        z.action(4, 8, 4);
        z.action(1, 16, 1);
        z.action(16, 32, 16);
        z.action(32, 8, 32);
        z.start(1);
        due("fewest(8)", z.fewest(8), 2);
        due("begins(8, 0)", z.begins(8, 0), true);
        due("begins(8, 1)", z.begins(8, 1), true);
        due("begins(8, 2)", z.begins(8, 2), false);
        due("begins(8, 4), on the long way", z.begins(8, 4), false);

        PlanLayers dropped = seven();
        due("begins(1, 6)", dropped.begins(1, 6), true);
        dropped.drop(6);
        due("begins(1, 6) after drop", dropped.begins(1, 6), false);
    }

    private static void advance() {
        promise = 10;
        PlanLayers x = new PlanLayers();
        x.action(1, 2, 1);
        x.action(4, 8, 4);
        x.action(1, 16, 0);
        x.start(5);
        for (int bad : new int[] {-1, 8, 9, 11, 16, 128, 256, Integer.MAX_VALUE, Integer.MIN_VALUE}) {
            due("advance(" + bad + ")", x.advance(bad), false);
            due("state()", x.state(), 5);
        }
        due("advance(5), two clash", x.advance(5), false);
        due("advance(7), two clash", x.advance(7), false);
        due("state()", x.state(), 5);
        due("advance(0)", x.advance(0), true);
        due("state()", x.state(), 5);
        due("advance(3)", x.advance(3), true);
        due("state()", x.state(), 10);
        due("advance(2), can't be done", x.advance(2), false);
        due("state()", x.state(), 10);
        due("fewest(5) from there", x.fewest(5), -3);
        x.start(1);
        due("advance(3), one can't be done", x.advance(3), false);
        due("state()", x.state(), 1);
        due("advance(4)", x.advance(4), true);
        due("state()", x.state(), 17);
        x.drop(2);
        due("advance(4) after drop", x.advance(4), false);

        PlanLayers y = seven();
        due("advance(128)", y.advance(128), false);
        due("advance(-128)", y.advance(-128), false);
        due("advance(127)", y.advance(127), true);
        due("state()", y.state(), 127);

        // Losses go first, then gains come.
        PlanLayers z = new PlanLayers();
        z.action(0, 3, 7);
        z.start(12);
        due("advance(1)", z.advance(1), true);
        due("state()", z.state(), 11);
        // A loss that isn't there is no hindrance.
        due("advance(1)", z.advance(1), true);
        due("state()", z.state(), 11);
    }

    private static void state() {
        promise = 11;
        PlanLayers x = lap();
        due("state()", x.state(), 1);
        x.fewest(40);
        x.within(8);
        x.together(3, 5, 8);
        x.begins(40, 0);
        x.clash(0, 1);
        due("state() after questions", x.state(), 1);
        x.advance(1);
        due("state() after advance", x.state(), 2);
        x.drop(0);
        due("state() after drop", x.state(), 2);
        x.action(0, 1, 0);
        due("state() after action", x.state(), 2);
        x.start(200);
        due("state() after start", x.state(), 200);
    }

    private static void sameAsLap(PlanLayers x, String after) {
        int[] facts = {1, 3, 7, 15, 31, 63, 63, 63, 63};
        for (int k = 0; k <= 8; k++) {
            due("within(" + k + ") " + after, x.within(k), facts[k]);
        }
        due("state() " + after, x.state(), 1);
        due("fewest(40) " + after, x.fewest(40), 8);
    }

    private static void orderAndLimits() {
        promise = 12;
        PlanLayers x = lap();
        x.action(256, 0, 0);
        x.action(0, -1, 0);
        x.action(0, 0, 256);
        sameAsLap(x, "after bad actions");
        x.drop(-1);
        x.drop(6);
        sameAsLap(x, "after bad drops");
        x.start(-1);
        x.start(256);
        sameAsLap(x, "after bad starts");
        x.advance(64);
        x.advance(-1);
        x.advance(3);
        x.advance(2);
        sameAsLap(x, "after bad layers");
        x.fewest(256);
        x.within(9);
        x.together(8, 0, 0);
        x.begins(256, 0);
        x.begins(0, 6);
        x.clash(6, 0);
        sameAsLap(x, "after bad questions");
        due("a seventh action", x.action(255, 128, 0), 6);
        due("an eighth action", x.action(0, 128, 0), -2);
        sameAsLap(x, "after an action too many");

        // No plan serves these either, but BAD is tested first.
        PlanLayers y = new PlanLayers();
        due("fewest(256)", y.fewest(256), -1);
        due("fewest(511)", y.fewest(511), -1);
        due("fewest(-1)", y.fewest(-1), -1);
        due("fewest(255)", y.fewest(255), -3);

        // The answers still hold at the 512th call.
        PlanLayers z = new PlanLayers();
        for (int call = 0; call < 255; call++) {
            due("action", z.action(0, 1 << (call & 7), 0), 0);
            due("drop", z.drop(0), 0);
        }
        due("start(9)", z.start(9), true);
        due("fewest(9)", z.fewest(9), 0);
    }

    public static void main(String[] args) {
        newObject();
        action();
        drop();
        start();
        clash();
        fewest();
        within();
        together();
        begins();
        advance();
        state();
        orderAndLimits();
        System.out.println(wrong == 0 ? "all promises hold" : wrong + " answers are not as due");
        if (wrong != 0) {
            System.exit(1);
        }
    }
}
