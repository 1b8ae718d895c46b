// One test for each sentence of the document that names a boundary case; the sentence
// stands beside the test in main. Every due answer is worked out by hand.
public final class BoundaryTests {
    private static int tests = 0;
    private static int wrong = 0;
    private static String sentence = "";

    private static void due(String call, int got, int want) {
        if (got != want) {
            tellWrong(call + " answered " + got + ", due is " + want);
        }
    }

    private static void due(String call, boolean got, boolean want) {
        if (got != want) {
            tellWrong(call + " answered " + got + ", due is " + want);
        }
    }

    private static void tellWrong(String what) {
        wrong++;
        System.out.println("[" + sentence + "] " + what);
    }

    // A call that throws breaks the sentence under test, not the tests after it.
    private static void test(String said, Runnable body) {
        sentence = said;
        tests++;
        try {
            body.run();
        } catch (RuntimeException e) {
            tellWrong("a call threw " + e);
        }
    }

    private static final int LEAST = Integer.MIN_VALUE;
    private static final int GREATEST = Integer.MAX_VALUE;

    // Numbers just outside, and numbers that come back inside if bits are cut off.
    private static final int[] NO_FACT_SET = {-1, 256, -255, -256, 257, 511, 65536, LEAST, LEAST + 1, GREATEST};
    private static final int[] NO_LAYER_COUNT = {-1, 9, -8, 10, 16, 32, 256, LEAST, LEAST + 1, GREATEST};
    private static final int[] NO_FACT = {-1, 8, -8, 9, 31, 32, 33, 64, 256, LEAST, LEAST + 1, GREATEST};

    private static int[] noActionAmong(int count) {
        return new int[] {-1, count, -count - 1, count + 1, 7 + count, 8, 32, 33, 256, LEAST, LEAST + 1, GREATEST};
    }

    private static PlanLayers with(int start, int[]... actions) {
        PlanLayers x = new PlanLayers();
        for (int[] a : actions) {
            x.action(a[0], a[1], a[2]);
        }
        x.start(start);
        return x;
    }

    private static int[] a(int needs, int gains, int losses) {
        return new int[] {needs, gains, losses};
    }

    // Action i gains fact i and does nothing else.
    private static PlanLayers gainers(int count) {
        PlanLayers x = new PlanLayers();
        for (int i = 0; i < count; i++) {
            x.action(0, 1 << i, 0);
        }
        return x;
    }

    // A token goes 0, 1, 2, 3, 4 and back to 0, and the way back leaves the mark 5;
    // the mark with the token on 3 gives 6. Seven actions in a row make plans of 7
    // layers at most, so longer ones need this second round. From {0}, {3, 5} takes
    // 8 layers and {6} takes 9; from {1}, {6} takes 8.
    private static PlanLayers lap(int start) {
        return with(start, a(1, 2, 1), a(2, 4, 2), a(4, 8, 4), a(8, 16, 8), a(16, 33, 16), a(40, 64, 0));
    }

    // ---- What it is, and Terms

    private static void lastCallThatCounts() {
        PlanLayers x = new PlanLayers();
        for (int n = 0; n < 169; n++) {
            due("action in round " + n, x.action(0, 1 << (n % 8), 0), 0);
            due("fewest in round " + n, x.fewest(1 << (n % 8)), 1);
            due("drop in round " + n, x.drop(0), 0);
        }
        due("call 508, action(3, 4, 1)", x.action(3, 4, 1), 0);
        due("call 509, start(3)", x.start(3), true);
        due("call 510, begins(4, 0)", x.begins(4, 0), true);
        due("call 511, advance(1)", x.advance(1), true);
        due("call 512, state()", x.state(), 6);
    }

    private static void firstAndLastFact() {
        for (int f : new int[] {0, 7}) {
            int fact = 1 << f;
            PlanLayers x = with(0, a(0, fact, 0), a(fact, 8, fact));
            due("fewest of fact " + f, x.fewest(fact), 1);
            due("within(1), fact " + f, x.within(1), fact);
            due("together, fact " + f, x.together(f, f, 1), true);
            due("clash by fact " + f, x.clash(0, 1), true);
            due("advance(1), fact " + f, x.advance(1), true);
            due("state() with fact " + f, x.state(), fact);
            due("begins by fact " + f, x.begins(8, 1), true);
            due("advance(2), fact " + f, x.advance(2), true);
            due("state() without fact " + f, x.state(), 8);
        }
    }

    private static void firstAndLastAction() {
        PlanLayers x = with(1, a(1, 2, 0), a(0, 0, 0), a(0, 0, 0), a(0, 0, 0), a(0, 0, 0), a(0, 0, 0), a(2, 4, 1));
        due("clash(0, 6)", x.clash(0, 6), true);
        due("clash(6, 0)", x.clash(6, 0), true);
        due("begins(2, 0)", x.begins(2, 0), true);
        due("begins(2, 6)", x.begins(2, 6), false);
        due("fewest(4)", x.fewest(4), 2);
        due("advance(1)", x.advance(1), true);
        due("state()", x.state(), 3);
        due("begins(4, 6)", x.begins(4, 6), true);
        due("advance(64)", x.advance(64), true);
        due("state()", x.state(), 6);
    }

    private static void noNeedsAndAllNeeds() {
        PlanLayers x = with(0, a(0, 1, 0), a(255, 0, 255));
        due("advance(1), no needs in the empty state", x.advance(1), true);
        x.start(255);
        due("advance(2), all needs in the full state", x.advance(2), true);
        for (int f = 0; f < 8; f++) {
            x.start(255 - (1 << f));
            due("advance(2), all needs but fact " + f, x.advance(2), false);
            x.start(1 << f);
            due("advance(2), of all needs only fact " + f, x.advance(2), false);
        }
    }

    private static void noClashWithItself() {
        PlanLayers x = with(255, a(255, 0, 255));
        due("clash(0, 0), it loses its needs", x.clash(0, 0), false);
        due("advance(1), it loses its needs", x.advance(1), true);
        due("state()", x.state(), 0);
        PlanLayers y = with(0, a(0, 255, 255));
        due("clash(0, 0), it loses its gains", y.clash(0, 0), false);
        due("fewest(255), it loses its gains", y.fewest(255), 1);
        due("advance(1), it loses its gains", y.advance(1), true);
        PlanLayers z = with(1, a(1, 2, 1), a(1, 2, 1));
        due("clash(0, 1), two actions alike are still two", z.clash(0, 1), true);
        due("advance(3), two actions alike are still two", z.advance(3), false);
    }

    private static void bothClash(String what, int[] one, int[] other, boolean want) {
        PlanLayers x = with(255, one, other);
        due("clash(0, 1), " + what, x.clash(0, 1), want);
        due("clash(1, 0), " + what, x.clash(1, 0), want);
        due("advance(3), " + what, x.advance(3), !want);
    }

    private static void oneFactIsEnoughToClash() {
        for (int f = 0; f < 8; f++) {
            int fact = 1 << f;
            bothClash("loss and need share fact " + f, a(0, 0, fact), a(fact, 0, 0), true);
            bothClash("loss and gain share fact " + f, a(0, 0, fact), a(0, fact, 0), true);
            bothClash("loss and need share all but fact " + f, a(0, 0, fact), a(255 - fact, 0, 0), false);
            bothClash("loss and gain share all but fact " + f, a(0, 0, fact), a(0, 255 - fact, 0), false);
        }
        bothClash("two losses", a(0, 0, 255), a(0, 0, 255), false);
        bothClash("two needs", a(255, 0, 0), a(255, 0, 0), false);
        bothClash("two gains", a(0, 255, 0), a(0, 255, 0), false);
        bothClash("a need and a gain", a(255, 0, 0), a(0, 255, 0), false);
        bothClash("nothing lost", a(255, 255, 0), a(255, 255, 0), false);
    }

    private static void emptyLayer() {
        due("advance(0) without actions", new PlanLayers().advance(0), true);
        PlanLayers x = lap(0);
        due("advance(0) where nothing can be done", x.advance(0), true);
        due("state()", x.state(), 0);
        PlanLayers y = lap(1);
        due("advance(0) where something can be done", y.advance(0), true);
        due("state()", y.state(), 1);
        // The one action loses fact 0, so only layers without it keep fact 0 there.
        PlanLayers z = with(1, a(0, 2, 1));
        for (int k = 0; k <= 8; k++) {
            due("together(0, 0, " + k + ")", z.together(0, 0, k), true);
        }
    }

    private static void anyTwoThatClash() {
        for (int i = 0; i < 7; i++) {
            for (int j = i + 1; j < 7; j++) {
                PlanLayers x = new PlanLayers();
                for (int n = 0; n < 7; n++) {
                    x.action(0, n == i ? 128 : 1 << n, n == j ? 128 : 0);
                }
                String pair = ", " + i + " and " + j + " clash";
                due("advance(127)" + pair, x.advance(127), false);
                due("advance of the two" + pair, x.advance((1 << i) | (1 << j)), false);
                due("state()" + pair, x.state(), 0);
                due("fewest of both gains" + pair, x.fewest(128 | (1 << j)), 2);
                due("begins with the first" + pair, x.begins(128, i), true);
                due("begins with the other" + pair, x.begins(128, j), false);
                due("advance without the second" + pair, x.advance(127 - (1 << j)), true);
                due("advance without the first" + pair, x.advance(127 - (1 << i)), true);
            }
        }
    }

    private static void needsBeforeTheLayer() {
        PlanLayers x = with(0, a(0, 1, 0), a(1, 2, 0));
        due("advance(3), the need comes with the layer", x.advance(3), false);
        due("state()", x.state(), 0);
        due("fewest(2)", x.fewest(2), 2);
        due("begins(2, 1)", x.begins(2, 1), false);
        due("together(0, 1, 1)", x.together(0, 1, 1), false);
        // Both lose what they need: neither takes it from the other.
        PlanLayers y = with(6, a(2, 8, 2), a(4, 16, 4));
        due("advance(3), both needs are there", y.advance(3), true);
        due("state()", y.state(), 24);
        for (int i = 0; i < 7; i++) {
            PlanLayers z = new PlanLayers();
            for (int n = 0; n < 7; n++) {
                z.action(n == i ? 128 : 0, 0, 0);
            }
            due("advance(127), only action " + i + " can't be done", z.advance(127), false);
            due("advance of all but action " + i, z.advance(127 - (1 << i)), true);
        }
    }

    private static void after(String what, int start, int[] action, int want) {
        PlanLayers x = with(start, action);
        due("advance(1), " + what, x.advance(1), true);
        due("state(), " + what, x.state(), want);
    }

    private static void lossesFirstThenGains() {
        after("loses all", 255, a(0, 0, 255), 0);
        after("gains all", 0, a(0, 255, 0), 255);
        after("loses and gains all, from nothing", 0, a(0, 255, 255), 255);
        after("loses and gains all, from all", 255, a(0, 255, 255), 255);
        after("loses what isn't there", 85, a(0, 0, 170), 85);
        after("gains what is there", 85, a(0, 85, 0), 85);
        after("does nothing", 85, a(0, 0, 0), 85);
        after("needs are not lost", 85, a(85, 0, 0), 85);
        PlanLayers x = with(255, a(0, 1, 2), a(0, 4, 8), a(0, 0, 2));
        due("advance(7)", x.advance(7), true);
        due("state(), losses of all three", x.state(), 245);
    }

    private static void planOfNoLayers() {
        PlanLayers x = lap(1);
        due("fewest(1)", x.fewest(1), 0);
        due("within(0)", x.within(0), 1);
        due("together(0, 0, 0)", x.together(0, 0, 0), true);
        due("together(1, 1, 0), done by the first layer", x.together(1, 1, 0), false);
        PlanLayers y = with(255, a(0, 0, 255));
        due("fewest(255)", y.fewest(255), 0);
        due("within(0)", y.within(0), 255);
        due("together(0, 7, 0)", y.together(0, 7, 0), true);
    }

    private static void servesAllOfThem() {
        due("fewest(0), no facts in the empty state", new PlanLayers().fewest(0), 0);
        due("fewest(0), no facts in the full state", with(255).fewest(0), 0);
        due("fewest(255), all facts in the full state", with(255).fewest(255), 0);
        for (int f = 0; f < 8; f++) {
            PlanLayers x = with(255 - (1 << f));
            due("fewest(255), all but fact " + f, x.fewest(255), PlanLayers.NONE);
            due("fewest of what is there, all but fact " + f, x.fewest(255 - (1 << f)), 0);
            due("together, the one that isn't there, " + f, x.together(f, (f + 1) % 8, 8), false);
            due("together, the other way round, " + f, x.together((f + 1) % 8, f, 8), false);
        }
    }

    // ---- Promise 1

    private static void newObjectHasNoActions() {
        due("drop(0)", new PlanLayers().drop(0), PlanLayers.BAD);
        due("clash(0, 1)", new PlanLayers().clash(0, 1), false);
        due("begins(1, 0)", new PlanLayers().begins(1, 0), false);
        due("advance(1)", new PlanLayers().advance(1), false);
        due("the first action", new PlanLayers().action(0, 0, 0), 0);
        due("fewest(1)", new PlanLayers().fewest(1), PlanLayers.NONE);
        PlanLayers x = with(37);
        due("within(8) is the start", x.within(8), 37);
        due("fewest(38)", x.fewest(38), PlanLayers.NONE);
    }

    private static void newObjectStartsEmpty() {
        due("state()", new PlanLayers().state(), 0);
        due("within(0)", new PlanLayers().within(0), 0);
        due("within(8)", new PlanLayers().within(8), 0);
        for (int f = 0; f < 8; f++) {
            due("together, fact " + f, new PlanLayers().together(f, f, 8), false);
        }
        PlanLayers other = with(255, a(0, 255, 0));
        due("state() beside another object", new PlanLayers().state(), 0);
        due("the other's state()", other.state(), 255);
    }

    // ---- Promise 2

    private static void eighthAction() {
        PlanLayers x = gainers(6);
        due("the seventh action", x.action(0, 64, 0), 6);
        due("the eighth action", x.action(0, 128, 0), PlanLayers.FULL);
        due("once more", x.action(0, 128, 0), PlanLayers.FULL);
        due("within(8)", x.within(8), 127);
        due("drop(0)", x.drop(0), 6);
        due("an action in its place", x.action(0, 128, 0), 6);
        due("one more than that", x.action(0, 1, 0), PlanLayers.FULL);
        due("within(8)", x.within(8), 254);
    }

    private static void fullBeforeBad() {
        PlanLayers x = gainers(7);
        for (int bad : NO_FACT_SET) {
            due("action(" + bad + ", 0, 0) of eight", x.action(bad, 0, 0), PlanLayers.FULL);
            due("action(0, " + bad + ", 0) of eight", x.action(0, bad, 0), PlanLayers.FULL);
            due("action(0, 0, " + bad + ") of eight", x.action(0, 0, bad), PlanLayers.FULL);
        }
        x.drop(6);
        due("action(-1, 0, 0) of seven", x.action(-1, 0, 0), PlanLayers.BAD);
    }

    private static void badNeeds() {
        PlanLayers x = new PlanLayers();
        for (int bad : NO_FACT_SET) {
            due("action(" + bad + ", 0, 0)", x.action(bad, 0, 0), PlanLayers.BAD);
        }
        due("action(0, 0, 0)", x.action(0, 0, 0), 0);
        due("action(255, 0, 0)", x.action(255, 0, 0), 1);
    }

    private static void badGains() {
        PlanLayers x = new PlanLayers();
        for (int bad : NO_FACT_SET) {
            due("action(0, " + bad + ", 0)", x.action(0, bad, 0), PlanLayers.BAD);
        }
        due("action(0, 0, 0)", x.action(0, 0, 0), 0);
        due("action(0, 255, 0)", x.action(0, 255, 0), 1);
    }

    private static void badLosses() {
        PlanLayers x = new PlanLayers();
        for (int bad : NO_FACT_SET) {
            due("action(0, 0, " + bad + ")", x.action(0, 0, bad), PlanLayers.BAD);
        }
        due("action(0, 0, 0)", x.action(0, 0, 0), 0);
        due("action(0, 0, 255)", x.action(0, 0, 255), 1);
    }

    private static void actionNumbers() {
        PlanLayers x = new PlanLayers();
        for (int i = 0; i < 7; i++) {
            due("a bad action before action " + i, x.action(0, 0, 256), PlanLayers.BAD);
            due("action " + i, x.action(0, 0, 0), i);
        }
        x.drop(0);
        x.drop(0);
        due("the next number after two drops", x.action(0, 0, 0), 5);
    }

    // ---- Promise 3

    private static void dropOfNone() {
        for (int count = 0; count <= 7; count++) {
            PlanLayers x = gainers(count);
            for (int none : noActionAmong(count)) {
                if (none < 0 || none >= count) {
                    due("drop(" + none + ") of " + count, x.drop(none), PlanLayers.BAD);
                }
            }
            due("within(1), all " + count + " are still there", x.within(1), (1 << count) - 1);
        }
        PlanLayers y = gainers(7);
        y.drop(3);
        due("drop(6) after drop(3)", y.drop(6), PlanLayers.BAD);
        due("drop(5) after drop(3)", y.drop(5), 5);
    }

    private static void laterOnesMoveDown() {
        for (int i = 0; i < 7; i++) {
            PlanLayers x = new PlanLayers();
            for (int n = 0; n < 7; n++) {
                x.action(1 << n, 128, 1 << n);
            }
            x.drop(i);
            for (int n = 0; n < 6; n++) {
                int fact = 1 << (n < i ? n : n + 1);
                String what = ", action " + n + " after drop(" + i + ")";
                x.start(127 - fact);
                due("advance without its need" + what, x.advance(1 << n), false);
                x.start(fact);
                due("advance" + what, x.advance(1 << n), true);
                due("state()" + what, x.state(), 128);
            }
            x.start(127);
            due("advance(64) after drop(" + i + ")", x.advance(64), false);
            due("the next action after drop(" + i + ")", x.action(0, 0, 0), 6);
        }
    }

    private static void actionsLeft() {
        PlanLayers x = gainers(7);
        for (int left = 6; left >= 0; left--) {
            due("drop(0)", x.drop(0), left);
        }
        due("drop(0) of none", x.drop(0), PlanLayers.BAD);
        PlanLayers y = gainers(7);
        for (int left = 6; left >= 0; left--) {
            due("drop(" + left + ")", y.drop(left), left);
        }
        due("drop(0) of none", y.drop(0), PlanLayers.BAD);
        due("the first action again", y.action(0, 0, 0), 0);
    }

    // ---- Promise 4

    private static void startOutside() {
        PlanLayers x = with(90);
        for (int bad : NO_FACT_SET) {
            due("start(" + bad + ")", x.start(bad), false);
            due("state()", x.state(), 90);
        }
    }

    private static void startInside() {
        PlanLayers x = new PlanLayers();
        for (int set : new int[] {255, 0, 1, 128, 254, 127, 0, 255}) {
            due("start(" + set + ")", x.start(set), true);
            due("state()", x.state(), set);
        }
    }

    // ---- Promise 5

    private static void clashOfOneWithItself() {
        PlanLayers x = new PlanLayers();
        for (int i = 0; i < 7; i++) {
            x.action(255, 255, 255);
        }
        for (int i = 0; i < 7; i++) {
            for (int j = 0; j < 7; j++) {
                due("clash(" + i + ", " + j + ")", x.clash(i, j), i != j);
            }
        }
    }

    private static void clashOfNone() {
        for (int count = 0; count <= 7; count++) {
            PlanLayers x = new PlanLayers();
            for (int i = 0; i < count; i++) {
                x.action(255, 255, 255);
            }
            for (int none : noActionAmong(count)) {
                if (none < 0 || none >= count) {
                    String of = " of " + count;
                    due("clash(0, " + none + ")" + of, x.clash(0, none), false);
                    due("clash(" + none + ", 0)" + of, x.clash(none, 0), false);
                    due("clash(" + none + ", " + none + ")" + of, x.clash(none, none), false);
                    due("clash(" + none + ", -2)" + of, x.clash(none, -2), false);
                }
            }
        }
        PlanLayers y = with(0, a(255, 255, 255), a(255, 255, 255), a(255, 255, 255));
        due("clash(0, 2)", y.clash(0, 2), true);
        y.drop(1);
        due("clash(0, 2) after drop(1)", y.clash(0, 2), false);
        due("clash(2, 0) after drop(1)", y.clash(2, 0), false);
        due("clash(0, 1) after drop(1)", y.clash(0, 1), true);
    }

    // ---- Promise 6

    private static void fewestFromNoneToEight() {
        due("fewest(1), 0 layers", lap(1).fewest(1), 0);
        due("fewest(2), 1 layer", lap(1).fewest(2), 1);
        due("fewest(36), 7 layers", lap(1).fewest(36), 7);
        due("fewest(40), 8 layers", lap(1).fewest(40), 8);
        due("fewest(64), 8 layers", lap(2).fewest(64), 8);
    }

    private static void fewestNone() {
        due("fewest(48), 9 layers", lap(1).fewest(48), PlanLayers.NONE);
        due("fewest(64), 9 layers", lap(1).fewest(64), PlanLayers.NONE);
        due("fewest(80), 10 layers", lap(1).fewest(80), PlanLayers.NONE);
        due("fewest(128), never", lap(1).fewest(128), PlanLayers.NONE);
        due("fewest(3), never both", lap(1).fewest(3), PlanLayers.NONE);
        due("fewest(255), never all", lap(1).fewest(255), PlanLayers.NONE);
        due("fewest(1) without actions", new PlanLayers().fewest(1), PlanLayers.NONE);
    }

    private static void fewestBad() {
        for (PlanLayers x : new PlanLayers[] {new PlanLayers(), lap(1), with(255)}) {
            for (int bad : NO_FACT_SET) {
                due("fewest(" + bad + ")", x.fewest(bad), PlanLayers.BAD);
            }
        }
        due("fewest(0)", lap(1).fewest(0), 0);
        due("fewest(255)", gainers(7).fewest(255), PlanLayers.NONE);
        due("fewest(255)", with(128, a(0, 127, 0)).fewest(255), 1);
    }

    // ---- Promise 7

    private static void withinFromNoneToEight() {
        due("within(0)", lap(1).within(0), 1);
        due("within(1)", lap(1).within(1), 3);
        due("within(7)", lap(2).within(7), 63);
        due("within(8), the last fact takes 8 layers", lap(2).within(8), 127);
        due("within(8), the last fact takes 9 layers", lap(1).within(8), 63);
    }

    private static void withinEachByItself() {
        // Facts 0 and 1 are never there at once: who brings the one takes the other away.
        PlanLayers x = with(0, a(0, 1, 254), a(0, 2, 253), a(3, 4, 0));
        due("within(0), empty", x.within(0), 0);
        due("within(1)", x.within(1), 3);
        due("within(8)", x.within(8), 3);
        due("fewest(3)", x.fewest(3), PlanLayers.NONE);
        due("within(8), all of them", with(0, a(0, 255, 0)).within(8), 255);
    }

    private static void withinAtMost() {
        // What a shorter plan serves counts, though the plan to fact 2 takes it away.
        PlanLayers x = with(1, a(1, 2, 1), a(2, 4, 2));
        for (int k = 2; k <= 8; k++) {
            due("within(" + k + ")", x.within(k), 7);
        }
    }

    private static void withinBad() {
        for (PlanLayers x : new PlanLayers[] {new PlanLayers(), lap(1), with(255)}) {
            for (int bad : NO_LAYER_COUNT) {
                due("within(" + bad + ")", x.within(bad), PlanLayers.BAD);
            }
        }
    }

    // ---- Promise 8

    private static void togetherFirstOutside() {
        PlanLayers x = with(255);
        for (int bad : NO_FACT) {
            for (int g : new int[] {0, 1, 7}) {
                due("together(" + bad + ", " + g + ", 0)", x.together(bad, g, 0), false);
            }
        }
        due("together(0, 3, 0)", x.together(0, 3, 0), true);
        due("together(7, 3, 0)", x.together(7, 3, 0), true);
    }

    private static void togetherSecondOutside() {
        PlanLayers x = with(255);
        for (int bad : NO_FACT) {
            for (int f : new int[] {0, 1, 7}) {
                due("together(" + f + ", " + bad + ", 0)", x.together(f, bad, 0), false);
            }
            due("together(" + bad + ", " + bad + ", 0)", x.together(bad, bad, 0), false);
        }
        due("together(3, 0, 0)", x.together(3, 0, 0), true);
        due("together(3, 7, 0)", x.together(3, 7, 0), true);
    }

    private static void togetherLayersOutside() {
        PlanLayers x = with(255);
        for (int bad : NO_LAYER_COUNT) {
            due("together(0, 7, " + bad + ")", x.together(0, 7, bad), false);
            due("together(3, 3, " + bad + ")", x.together(3, 3, bad), false);
        }
        due("together(0, 7, 0)", x.together(0, 7, 0), true);
        due("together(0, 7, 8)", x.together(0, 7, 8), true);
        due("together(6, 6, 9), though 9 layers would do", lap(1).together(6, 6, 9), false);
    }

    private static void togetherJustThatMany() {
        due("together(3, 5, 7), of 8 layers", lap(1).together(3, 5, 7), false);
        due("together(3, 5, 8), of 8 layers", lap(1).together(3, 5, 8), true);
        due("together(4, 5, 8), of 9 layers", lap(1).together(4, 5, 8), false);
        due("together(6, 6, 7), of 8 layers", lap(2).together(6, 6, 7), false);
        due("together(6, 6, 8), of 8 layers", lap(2).together(6, 6, 8), true);
        due("together(6, 6, 8), of 9 layers", lap(1).together(6, 6, 8), false);
        for (int k = 0; k <= 8; k++) {
            due("together(0, 7, " + k + "), of 1 layer", with(0, a(0, 129, 0)).together(0, 7, k), k >= 1);
            due("together(0, 7, " + k + "), of 2 layers", with(0, a(0, 1, 0), a(1, 128, 0)).together(0, 7, k), k >= 2);
        }
    }

    private static void togetherBoth() {
        PlanLayers x = with(1, a(1, 2, 1));
        due("together(0, 0, 8)", x.together(0, 0, 8), true);
        due("together(1, 1, 8)", x.together(1, 1, 8), true);
        due("together(0, 1, 8), each but not both", x.together(0, 1, 8), false);
        due("together(1, 0, 8), each but not both", x.together(1, 0, 8), false);
        due("together(2, 2, 8)", x.together(2, 2, 8), false);
    }

    // ---- Promise 9

    private static void beginsWithoutPlan() {
        due("begins(40, 0), 8 layers", lap(1).begins(40, 0), true);
        due("begins(64, 1), 8 layers", lap(2).begins(64, 1), true);
        due("begins(64, 0), 9 layers", lap(1).begins(64, 0), false);
        due("begins(48, 0), 9 layers", lap(1).begins(48, 0), false);
        due("begins(80, 0), 10 layers", lap(1).begins(80, 0), false);
        due("begins(128, 0), never", lap(1).begins(128, 0), false);
        due("begins(255, 0), never", lap(1).begins(255, 0), false);
    }

    private static void beginsOfNoLayers() {
        PlanLayers x = gainers(7);
        x.start(5);
        for (int i = 0; i < 7; i++) {
            due("begins(0, " + i + ")", x.begins(0, i), false);
            due("begins(1, " + i + ")", x.begins(1, i), false);
            due("begins(5, " + i + ")", x.begins(5, i), false);
            due("begins(7, " + i + "), 1 layer", x.begins(7, i), true);
        }
        due("begins(255, 0)", with(255, a(0, 255, 0)).begins(255, 0), false);
    }

    private static void beginsWithNoSuchAction() {
        for (int count = 0; count <= 7; count++) {
            PlanLayers x = gainers(count);
            for (int none : noActionAmong(count)) {
                if (none < 0 || none >= count) {
                    due("begins(1, " + none + ") of " + count, x.begins(1, none), false);
                }
            }
            if (count > 0) {
                due("begins(1, last) of " + count, x.begins(1, count - 1), true);
                x.drop(count - 1);
                due("begins(1, last) after its drop", x.begins(1, count - 1), false);
            }
        }
    }

    private static void beginsWithBadGoal() {
        // Each has the bits of a goal that one layer serves, and more.
        PlanLayers x = with(128, a(0, 127, 0));
        due("begins(255, 0)", x.begins(255, 0), true);
        due("begins(1, 0)", x.begins(1, 0), true);
        for (int bad : NO_FACT_SET) {
            due("begins(" + bad + ", 0)", x.begins(bad, 0), false);
        }
    }

    private static void beginsWithTheFewest() {
        // Action 0 then 1 serves in two layers what action 2 serves in one.
        PlanLayers x = with(1, a(1, 2, 1), a(2, 4, 2), a(1, 4, 1));
        due("begins(4, 2), 1 layer", x.begins(4, 2), true);
        due("begins(4, 0), 2 layers", x.begins(4, 0), false);
        due("begins(4, 1), not the first layer", x.begins(4, 1), false);
        x.drop(2);
        due("begins(4, 0), 2 layers are now the fewest", x.begins(4, 0), true);
        due("begins(4, 1), not the first layer", x.begins(4, 1), false);
        // The fewest come only with two side by side; a third may idle beside them.
        PlanLayers y = with(1, a(1, 2, 0), a(1, 4, 0), a(0, 0, 128), a(0, 8, 1));
        due("begins(6, 0), with another", y.begins(6, 0), true);
        due("begins(6, 1), with another", y.begins(6, 1), true);
        due("begins(6, 2), idle", y.begins(6, 2), true);
        due("begins(6, 3), clashes with both", y.begins(6, 3), false);
    }

    // ---- Promise 10

    private static void advanceByNoSet() {
        for (int count = 0; count <= 7; count++) {
            PlanLayers x = gainers(count);
            int sets = 1 << count;
            for (int bad : new int[] {sets, sets + 1, 2 * sets - 1, 2 * sets, 128, 256, 257, 65536,
                -1, -sets, 1 - sets - sets, LEAST, LEAST + 1, GREATEST}) {
                due("advance(" + bad + ") of " + count, x.advance(bad), false);
                due("state()", x.state(), 0);
            }
            due("advance of all " + count, x.advance(sets - 1), true);
            due("state()", x.state(), sets - 1);
        }
        PlanLayers y = gainers(7);
        y.drop(0);
        due("advance(64) after a drop", y.advance(64), false);
        due("advance(32) after a drop", y.advance(32), true);
        due("state()", y.state(), 64);
    }

    private static void advanceByClash() {
        PlanLayers x = with(1, a(1, 2, 0), a(0, 4, 1), a(0, 8, 0));
        due("advance(3), a loss is a need", x.advance(3), false);
        due("advance(7), a loss is a need", x.advance(7), false);
        due("state()", x.state(), 1);
        due("advance(5)", x.advance(5), true);
        due("state()", x.state(), 11);
        PlanLayers y = with(0, a(0, 2, 0), a(0, 4, 2));
        due("advance(3), a loss is a gain", y.advance(3), false);
        due("state()", y.state(), 0);
        due("advance(2)", y.advance(2), true);
        due("state()", y.state(), 4);
    }

    private static void advanceByWhatCantBeDone() {
        PlanLayers x = with(2, a(1, 4, 0), a(2, 8, 0), a(3, 16, 0));
        due("advance(1)", x.advance(1), false);
        due("advance(3), one of two", x.advance(3), false);
        due("advance(4), one need of two", x.advance(4), false);
        due("advance(7)", x.advance(7), false);
        due("state()", x.state(), 2);
        due("advance(2)", x.advance(2), true);
        due("state()", x.state(), 10);
    }

    private static void advanceJustThese() {
        PlanLayers x = gainers(7);
        for (int layer = 0; layer < 128; layer++) {
            x.start(128);
            due("advance(" + layer + ")", x.advance(layer), true);
            due("state()", x.state(), 128 + layer);
        }
        PlanLayers y = lap(1);
        due("advance(1)", y.advance(1), true);
        due("fewest(2) from there", y.fewest(2), 0);
        due("fewest(64) from there", y.fewest(64), 8);
        due("within(0) from there", y.within(0), 2);
        due("begins(4, 1) from there", y.begins(4, 1), true);
    }

    // ---- Promise 11

    private static void stateFromEmptyToFull() {
        PlanLayers x = with(0, a(0, 255, 0), a(0, 0, 255));
        due("state(), empty", x.state(), 0);
        x.advance(1);
        due("state(), full", x.state(), 255);
        x.advance(2);
        due("state(), empty again", x.state(), 0);
        x.start(255);
        due("state(), full again", x.state(), 255);
    }

    // ---- Promise 12; that a refused call changes nothing is in RefusalTests.

    private static void fewestBadBeforeNone() {
        PlanLayers x = new PlanLayers();
        for (int bad : NO_FACT_SET) {
            due("fewest(" + bad + "), no plan either", x.fewest(bad), PlanLayers.BAD);
        }
        due("fewest(255), a goal without a plan", x.fewest(255), PlanLayers.NONE);
    }

    private static void tryTerms() {
        test("What it is: at most 512 calls", BoundaryTests::lastCallThatCounts);
        test("Terms: 8 facts, 0 to 7", BoundaryTests::firstAndLastFact);
        test("Terms: up to 7 actions, numbered from 0", BoundaryTests::firstAndLastAction);
        test("Terms: done in a state that has all of its needs", BoundaryTests::noNeedsAndAllNeeds);
        test("Terms: two different actions clash", BoundaryTests::noClashWithItself);
        test("Terms: a loss that is a need or a gain of the other", BoundaryTests::oneFactIsEnoughToClash);
        test("Terms: a layer may be empty", BoundaryTests::emptyLayer);
        test("Terms: a layer, no two of which clash", BoundaryTests::anyTwoThatClash);
        test("Terms: all can be done in the state before it", BoundaryTests::needsBeforeTheLayer);
        test("Terms: without the losses and then with the gains", BoundaryTests::lossesFirstThenGains);
        test("Terms: the start state for k = 0", BoundaryTests::planOfNoLayers);
        test("Terms: serves iff it has all of them", BoundaryTests::servesAllOfThem);
    }

    private static void tryChanges() {
        test("1: no actions", BoundaryTests::newObjectHasNoActions);
        test("1: the start state is empty", BoundaryTests::newObjectStartsEmpty);
        test("2: 7 actions are there: FULL", BoundaryTests::eighthAction);
        test("2: tested in this order", BoundaryTests::fullBeforeBad);
        test("2: needs outside 0..255: BAD", BoundaryTests::badNeeds);
        test("2: gains outside 0..255: BAD", BoundaryTests::badGains);
        test("2: losses outside 0..255: BAD", BoundaryTests::badLosses);
        test("2: else answers its number", BoundaryTests::actionNumbers);
        test("3: there is none: BAD", BoundaryTests::dropOfNone);
        test("3: later ones move one down", BoundaryTests::laterOnesMoveDown);
        test("3: else the number of actions left", BoundaryTests::actionsLeft);
        test("4: set outside 0..255: refused", BoundaryTests::startOutside);
        test("4: else true", BoundaryTests::startInside);
        test("10: layer is no set of actions", BoundaryTests::advanceByNoSet);
        test("10: some two of them clash", BoundaryTests::advanceByClash);
        test("10: some can't be done", BoundaryTests::advanceByWhatCantBeDone);
        test("10: the state after the layer with just these", BoundaryTests::advanceJustThese);
        test("11: the start state", BoundaryTests::stateFromEmptyToFull);
    }

    private static void tryQuestions() {
        test("5: false for i = j", BoundaryTests::clashOfOneWithItself);
        test("5: false if there is no such action", BoundaryTests::clashOfNone);
        test("6: from 0 to 8", BoundaryTests::fewestFromNoneToEight);
        test("6: NONE if no plan of at most 8 layers", BoundaryTests::fewestNone);
        test("6: BAD for goal outside 0..255", BoundaryTests::fewestBad);
        test("7: k from 0 to 8", BoundaryTests::withinFromNoneToEight);
        test("7: each by itself", BoundaryTests::withinEachByItself);
        test("7: some plan of at most k layers", BoundaryTests::withinAtMost);
        test("7: BAD for k outside 0..8", BoundaryTests::withinBad);
        test("8: false if f is outside 0..7", BoundaryTests::togetherFirstOutside);
        test("8: false if g is outside 0..7", BoundaryTests::togetherSecondOutside);
        test("8: false if k is outside 0..8", BoundaryTests::togetherLayersOutside);
        test("8: some plan of just k layers", BoundaryTests::togetherJustThatMany);
        test("8: serves both", BoundaryTests::togetherBoth);
        test("9: false if no plan of at most 8 layers", BoundaryTests::beginsWithoutPlan);
        test("9: false if the fewest are 0", BoundaryTests::beginsOfNoLayers);
        test("9: false if there is no action i", BoundaryTests::beginsWithNoSuchAction);
        test("9: false if goal is outside 0..255", BoundaryTests::beginsWithBadGoal);
        test("9: some plan with the fewest layers", BoundaryTests::beginsWithTheFewest);
        test("12: fewest: BAD is tested before NONE", BoundaryTests::fewestBadBeforeNone);
    }

    public static void main(String[] args) {
        tryTerms();
        tryChanges();
        tryQuestions();
        System.out.println(tests + " sentences tested, " + wrong + " answers are not as due");
        if (wrong != 0) {
            System.exit(1);
        }
    }
}
