import java.util.Arrays;

/** For each promise of the document: ordinary inputs, the edges it names, and wrong inputs. */
public final class PromisesTest {
    private static final int BAD_POINT = -1;
    private static final int BAD_NUMBER = -2;
    private static final int FULL = -3;
    private static final int NONE = -4;
    private static final int[] FAR = {Integer.MIN_VALUE, Integer.MIN_VALUE + 1, -1000000, -1, 2401, 1000000,
        Integer.MAX_VALUE - 1, Integer.MAX_VALUE};

    private static int wrong = 0;
    private static int promise = 0;

    private static void due(String call, int got, int want) {
        if (got != want) {
            wrong++;
            System.out.println("promise " + promise + ": " + call + " answered " + got + ", due is " + want);
        }
    }

    private static void due(String call, boolean got, boolean want) {
        if (got != want) {
            wrong++;
            System.out.println("promise " + promise + ": " + call + " answered " + got + ", due is " + want);
        }
    }

    private static int ends(int from, int to) {
        return from + 8 * to;
    }

    private static int digits(int a, int b, int c, int d) {
        return a + 7 * b + 49 * c + 343 * d;
    }

    private static int triple(int x, int y, int z) {
        return x + 7 * y + 49 * z;
    }

    /** Answers that show any change of the steps, in one text: 57 calls, as an object has 512. */
    private static String answers(AffineInvariants it) {
        StringBuilder text = new StringBuilder();
        for (int p = 0; p < 8; p++) {
            text.append(it.reached(p)).append(it.equations(p)).append(' ').append(it.span(p));
            for (int variable = 0; variable < 3; variable++) {
                text.append(' ').append(it.constant(p, variable));
            }
            text.append(it.implies(p, (p + 1) % 8)).append(' ');
        }
        return text.append(it.loosest()).toString();
    }

    private static void same(String call, String got, String want) {
        due("after " + call + " all else the same:", got.equals(want), true);
    }

    public static void main(String[] args) {
        newObject();
        assign();
        assignTestsAndOrder();
        forget();
        pass();
        full();
        drop();
        clear();
        reached();
        holds();
        equations();
        span();
        spanIsMoreThanWhatIsReached();
        inSpan();
        lineThroughTwoStates();
        planeThroughThreeStates();
        constant();
        implies();
        loosest();
        askingChangesNothing();
        objectsAreApart();
        System.out.println(wrong == 0 ? "all answers are as due" : wrong + " answers are not as due");
        if (wrong != 0) {
            System.exit(1);
        }
    }

    private static void newObject() {
        promise = 1;
        AffineInvariants it = new AffineInvariants();
        due("reached(0)", it.reached(0), true);
        due("span(0)", it.span(0), 1);
        due("equations(0)", it.equations(0), 343);
        due("inSpan(0, 0)", it.inSpan(0, 0), true);
        for (int point = 1; point < 8; point++) {
            due("reached(" + point + ")", it.reached(point), false);
            due("span(" + point + ")", it.span(point), 0);
            due("equations(" + point + ")", it.equations(point), 2401);
        }
        due("loosest()", it.loosest(), 1);
        due("drop()", it.drop(), NONE);
    }

    private static void assign() {
        promise = 2;
        AffineInvariants it = new AffineInvariants();
        due("assign x = 3", it.assign(ends(0, 1), 0, digits(0, 0, 0, 3)), 0);
        due("assign y = 2x + 5", it.assign(ends(1, 2), 1, digits(2, 0, 0, 5)), 1);
        due("assign z = 3x + 4y + 6", it.assign(ends(2, 3), 2, digits(3, 4, 0, 6)), 2);
        due("assign x = x + y + 5z + 1", it.assign(ends(3, 7), 0, digits(1, 1, 5, 1)), 3);
        due("inSpan(1, 3 0 0)", it.inSpan(1, triple(3, 0, 0)), true);
        due("inSpan(2, 3 4 0)", it.inSpan(2, triple(3, 4, 0)), true);
        due("inSpan(3, 3 4 3)", it.inSpan(3, triple(3, 4, 3)), true);
        due("inSpan(7, 2 4 3)", it.inSpan(7, triple(2, 4, 3)), true);
        for (int point = 0; point < 8; point++) {
            due("span(" + point + ")", it.span(point), point < 4 || point == 7 ? 1 : 0);
        }

        // The least and the greatest of each argument.
        it = new AffineInvariants();
        due("assign(0, 0, 0)", it.assign(0, 0, 0), 0);
        due("span(0)", it.span(0), 1);
        due("pass(0 to 7)", it.pass(ends(0, 7)), 1);
        due("assign(63, 2, 2400)", it.assign(63, 2, 2400), 2);
        due("span(7)", it.span(7), 7);
        due("constant(7, 0)", it.constant(7, 0), 0);
        due("constant(7, 1)", it.constant(7, 1), 0);
        due("constant(7, 2)", it.constant(7, 2), NONE);

        // The steps are taken again and again, in whatever order they were added.
        it = new AffineInvariants();
        it.assign(ends(2, 3), 2, digits(1, 6, 0, 0));
        it.assign(ends(1, 2), 1, digits(0, 1, 0, 1));
        it.assign(ends(2, 1), 0, digits(1, 0, 0, 1));
        due("reached(3)", it.reached(3), false);
        it.pass(ends(0, 1));
        due("holds(1, x = y)", it.holds(1, digits(1, 6, 0, 0)), true);
        due("holds(2, y - x = 1)", it.holds(2, digits(6, 1, 0, 1)), true);
        due("constant(3, 2)", it.constant(3, 2), 6);
        due("span(1)", it.span(1), 7);
        due("span(3)", it.span(3), 7);
    }

    private static void assignTestsAndOrder() {
        promise = 2;
        AffineInvariants it = new AffineInvariants();
        it.assign(ends(0, 1), 0, digits(0, 0, 0, 3));
        String before = answers(it);
        for (int bad : FAR) {
            due("assign(" + bad + ", 0, 0)", it.assign(bad, 0, 0), BAD_POINT);
            due("assign(0, " + bad + ", 0)", it.assign(0, bad, 0), BAD_NUMBER);
            due("assign(0, 0, " + bad + ")", it.assign(0, 0, bad), BAD_NUMBER);
            due("assign(" + bad + " thrice)", it.assign(bad, bad, bad), BAD_POINT);
        }
        due("assign(64, 0, 0)", it.assign(64, 0, 0), BAD_POINT);
        due("assign(64, 3, 2401)", it.assign(64, 3, 2401), BAD_POINT);
        due("assign(0, 3, 0)", it.assign(0, 3, 0), BAD_NUMBER);
        due("assign(0, 3, 2401)", it.assign(0, 3, 2401), BAD_NUMBER);
        same("refused assign", answers(it), before);
        due("assign(0, 0, 0)", it.assign(0, 0, 0), 1);
    }

    private static void forget() {
        promise = 3;
        for (int variable = 0; variable < 3; variable++) {
            AffineInvariants it = new AffineInvariants();
            due("assign x = 2", it.assign(ends(0, 1), 0, digits(0, 0, 0, 2)), 0);
            due("assign y = 3", it.assign(ends(1, 2), 1, digits(0, 0, 0, 3)), 1);
            due("assign z = 4", it.assign(ends(2, 3), 2, digits(0, 0, 0, 4)), 2);
            due("forget", it.forget(ends(3, 4), variable), 3);
            due("span(4)", it.span(4), 7);
            for (int other = 0; other < 3; other++) {
                due("constant(4, " + other + ")", it.constant(4, other), other == variable ? NONE : other + 2);
            }
            due("span(3)", it.span(3), 1);
        }
        AffineInvariants it = new AffineInvariants();
        due("forget(0, 0)", it.forget(0, 0), 0);
        due("span(0)", it.span(0), 7);
        due("forget(0 to 7, 2)", it.forget(ends(0, 7), 2), 1);
        due("forget(63, 1)", it.forget(63, 1), 2);
        due("span(7)", it.span(7), 343);
        String before = answers(it);
        for (int bad : FAR) {
            due("forget(" + bad + ", 0)", it.forget(bad, 0), BAD_POINT);
            due("forget(0, " + bad + ")", it.forget(0, bad), BAD_NUMBER);
            due("forget(" + bad + " twice)", it.forget(bad, bad), BAD_POINT);
        }
        due("forget(64, 0)", it.forget(64, 0), BAD_POINT);
        due("forget(64, 3)", it.forget(64, 3), BAD_POINT);
        due("forget(63, 3)", it.forget(63, 3), BAD_NUMBER);
        same("refused forget", answers(it), before);
        due("forget(0, 0)", it.forget(0, 0), 3);
    }

    private static void pass() {
        promise = 4;
        AffineInvariants it = new AffineInvariants();
        due("assign x = 5", it.assign(ends(0, 1), 0, digits(0, 0, 0, 5)), 0);
        due("forget z", it.forget(ends(1, 1), 2), 1);
        due("pass(1 to 2)", it.pass(ends(1, 2)), 2);
        due("span(2)", it.span(2), 7);
        due("constant(2, 0)", it.constant(2, 0), 5);
        due("constant(2, 1)", it.constant(2, 1), 0);
        due("constant(2, 2)", it.constant(2, 2), NONE);
        String before = answers(it);
        due("pass(0)", it.pass(0), 3);
        due("pass(63)", it.pass(63), 4);
        same("a pass that reaches nothing new", answers(it), before);
        for (int bad : FAR) {
            due("pass(" + bad + ")", it.pass(bad), BAD_POINT);
        }
        due("pass(64)", it.pass(64), BAD_POINT);
        same("refused pass", answers(it), before);
        due("pass(2 to 0)", it.pass(ends(2, 0)), 5);
        due("span(0)", it.span(0), 49);
    }

    private static void full() {
        for (int number = 0; number < 3; number++) {
            AffineInvariants it = new AffineInvariants();
            promise = 4;
            for (int step = 0; step < 12; step++) {
                due("the step " + step, step % 3 == 0 ? it.pass(0) : step % 3 == 1 ? it.forget(ends(0, 1), 0)
                        : it.assign(ends(1, 2), 1, digits(1, 0, 0, 1)), step);
            }
            String before = answers(it);
            promise = 2;
            due("assign(56, 0, 343)", it.assign(ends(0, 7), 0, 343), FULL);
            due("assign(64, 0, 0)", it.assign(64, 0, 0), BAD_POINT);
            due("assign(0, 3, 0)", it.assign(0, 3, 0), BAD_NUMBER);
            due("assign(0, 0, 2401)", it.assign(0, 0, 2401), BAD_NUMBER);
            promise = 3;
            due("forget(56, 0)", it.forget(ends(0, 7), 0), FULL);
            due("forget(-1, 0)", it.forget(-1, 0), BAD_POINT);
            due("forget(0, -1)", it.forget(0, -1), BAD_NUMBER);
            promise = 4;
            due("pass(56)", it.pass(ends(0, 7)), FULL);
            due("pass(64)", it.pass(64), BAD_POINT);
            same("steps refused as FULL", answers(it), before);
            due("reached(7)", it.reached(7), false);
            promise = 5;
            due("drop()", it.drop(), 11);
            due("the step 11 again", number == 0 ? it.pass(ends(0, 7)) : number == 1 ? it.forget(ends(0, 7), 0)
                    : it.assign(ends(0, 7), 0, 0), 11);
            due("reached(7)", it.reached(7), true);
            due("pass(0)", it.pass(0), FULL);
        }
    }

    private static void drop() {
        promise = 5;
        AffineInvariants it = new AffineInvariants();
        due("drop()", it.drop(), NONE);
        String none = answers(it);
        it.forget(ends(0, 1), 0);
        String one = answers(it);
        it.assign(ends(1, 0), 1, digits(1, 0, 0, 2));
        String two = answers(it);
        it.pass(ends(1, 5));
        due("reached(5)", it.reached(5), true);
        due("drop()", it.drop(), 2);
        due("reached(5)", it.reached(5), false);
        same("drop to two", answers(it), two);
        due("drop()", it.drop(), 1);
        same("drop to one", answers(it), one);
        due("forget(1 to 3, 2)", it.forget(ends(1, 3), 2), 1);
        due("span(3)", it.span(3), 49);
        due("drop()", it.drop(), 1);
        due("drop()", it.drop(), 0);
        same("drop to none", answers(it), none);
        due("drop()", it.drop(), NONE);
        due("drop()", it.drop(), NONE);
        due("pass(0)", it.pass(0), 0);
    }

    private static void clear() {
        promise = 6;
        AffineInvariants it = new AffineInvariants();
        String none = answers(it);
        it.clear();
        same("clear of none", answers(it), none);
        for (int round = 0; round < 3; round++) {
            for (int step = 0; step < 12; step++) {
                due("forget", it.forget(ends(step % 8, (step + 1) % 8), step % 3), step);
            }
            due("span(3)", it.span(3), 343);
            it.clear();
            same("clear", answers(it), none);
            due("drop()", it.drop(), NONE);
        }
        due("pass(8)", it.pass(8), 0);
        due("span(1)", it.span(1), 1);
    }

    private static void reached() {
        promise = 7;
        AffineInvariants it = new AffineInvariants();
        it.pass(ends(6, 7));
        it.pass(ends(5, 6));
        it.pass(ends(3, 3));
        it.pass(ends(7, 5));
        due("reached(7)", it.reached(7), false);
        due("reached(3)", it.reached(3), false);
        it.pass(ends(0, 5));
        for (int point = 0; point < 8; point++) {
            due("reached(" + point + ")", it.reached(point), point == 0 || point >= 5);
        }
        for (int bad : FAR) {
            due("reached(" + bad + ")", it.reached(bad), false);
        }
        due("reached(8)", it.reached(8), false);
    }

    private static void holds() {
        promise = 8;
        AffineInvariants it = new AffineInvariants();
        it.forget(ends(0, 1), 0);
        it.assign(ends(1, 2), 1, digits(3, 0, 0, 4));
        it.assign(ends(2, 3), 2, digits(0, 0, 0, 5));
        due("holds(3, y - 3x = 4)", it.holds(3, digits(4, 1, 0, 4)), true);
        due("holds(3, y - 3x = 3)", it.holds(3, digits(4, 1, 0, 3)), false);
        due("holds(3, 2y - 6x = 1)", it.holds(3, digits(1, 2, 0, 1)), true);
        due("holds(3, z = 5)", it.holds(3, digits(0, 0, 1, 5)), true);
        due("holds(3, z = 2)", it.holds(3, digits(0, 0, 1, 2)), false);
        due("holds(3, y - 3x + 2z = 0)", it.holds(3, digits(4, 1, 2, 0)), true);
        due("holds(3, x = 0)", it.holds(3, digits(1, 0, 0, 0)), false);
        due("holds(3, 0 = 0)", it.holds(3, 0), true);
        due("holds(3, 0 = 1)", it.holds(3, 343), false);
        due("holds(3, 2400)", it.holds(3, 2400), false);
        // At the beginning all equations with d = 0 hold, at a point that is not reached all of them.
        AffineInvariants other = new AffineInvariants();
        for (int digits = 0; digits <= 2400; digits++) {
            if (digits % 256 == 0) {
                other = new AffineInvariants();
            }
            due("holds(4, " + digits + ")", other.holds(4, digits), true);
            due("holds(0, " + digits + ")", other.holds(0, digits), digits < 343);
        }
        for (int bad : FAR) {
            due("holds(" + bad + ", 0)", it.holds(bad, 0), false);
            due("holds(4, " + bad + ")", it.holds(4, bad), false);
            due("holds(0, " + bad + ")", it.holds(0, bad), false);
        }
        due("holds(8, 0)", it.holds(8, 0), false);
        due("holds(-1, 0)", it.holds(-1, 0), false);
    }

    private static void equations() {
        promise = 9;
        AffineInvariants it = new AffineInvariants();
        it.forget(ends(0, 1), 0);
        it.forget(ends(1, 2), 1);
        it.forget(ends(2, 3), 2);
        due("equations(0)", it.equations(0), 343);
        due("equations(1)", it.equations(1), 49);
        due("equations(2)", it.equations(2), 7);
        due("equations(3)", it.equations(3), 1);
        due("equations(4)", it.equations(4), 2401);
        due("equations(7)", it.equations(7), 2401);
        for (int bad : FAR) {
            due("equations(" + bad + ")", it.equations(bad), BAD_POINT);
        }
        due("equations(8)", it.equations(8), BAD_POINT);
    }

    private static void span() {
        promise = 10;
        AffineInvariants it = new AffineInvariants();
        it.forget(ends(0, 1), 2);
        it.forget(ends(1, 2), 0);
        it.forget(ends(2, 3), 1);
        due("span(0)", it.span(0), 1);
        due("span(1)", it.span(1), 7);
        due("span(2)", it.span(2), 49);
        due("span(3)", it.span(3), 343);
        due("span(4)", it.span(4), 0);
        due("span(7)", it.span(7), 0);
        for (int bad : FAR) {
            due("span(" + bad + ")", it.span(bad), BAD_POINT);
        }
        due("span(8)", it.span(8), BAD_POINT);
    }

    private static void spanIsMoreThanWhatIsReached() {
        promise = 10;
        // Two states reached at point 1, (1, 2, 0) and (3, 0, 0): the span is the line through them.
        AffineInvariants it = new AffineInvariants();
        it.assign(ends(0, 2), 0, digits(0, 0, 0, 1));
        it.assign(ends(2, 1), 1, digits(0, 0, 0, 2));
        it.assign(ends(0, 1), 0, digits(0, 0, 0, 3));
        due("span(1)", it.span(1), 7);
        due("equations(1)", it.equations(1), 49);
        due("holds(1, x + y = 3)", it.holds(1, digits(1, 1, 0, 3)), true);
        for (int x = 0; x < 7; x++) {
            for (int y = 0; y < 7; y++) {
                due("inSpan(1, " + x + " " + y + " 0)", it.inSpan(1, triple(x, y, 0)), (x + y) % 7 == 3);
                due("inSpan(1, " + x + " " + y + " 1)", it.inSpan(1, triple(x, y, 1)), false);
            }
        }
        // A third, (0, 0, 1), makes it a plane, and a fourth, (0, 0, 0), the whole.
        it.assign(ends(0, 1), 2, digits(0, 0, 0, 1));
        due("span(1)", it.span(1), 49);
        due("holds(1, x + y + 3z = 3)", it.holds(1, digits(1, 1, 3, 3)), true);
        it.pass(ends(0, 1));
        due("span(1)", it.span(1), 343);
        due("equations(1)", it.equations(1), 1);
    }

    private static AffineInvariants pointsWithSpans() {
        AffineInvariants it = new AffineInvariants();
        it.forget(ends(0, 1), 0);
        it.forget(ends(1, 1), 1);
        it.assign(ends(1, 2), 2, digits(2, 3, 0, 6));
        it.forget(ends(1, 3), 2);
        return it;
    }

    private static void inSpan() {
        promise = 11;
        for (int point = 0; point < 8; point++) {
            AffineInvariants it = pointsWithSpans();
            for (int t = 0; t <= 342; t++) {
                int x = t % 7;
                int y = t / 7 % 7;
                int z = t / 49;
                boolean want = point == 0 && t == 0
                        || point == 1 && z == 0
                        || point == 2 && z == (2 * x + 3 * y + 6) % 7
                        || point == 3;
                due("inSpan(" + point + ", " + t + ")", it.inSpan(point, t), want);
            }
        }
        AffineInvariants it = pointsWithSpans();
        for (int bad : FAR) {
            due("inSpan(3, " + bad + ")", it.inSpan(3, bad), false);
            due("inSpan(" + bad + ", 0)", it.inSpan(bad, 0), false);
        }
        due("inSpan(3, 343)", it.inSpan(3, 343), false);
        due("inSpan(2, 343)", it.inSpan(2, 343), false);
        due("inSpan(8, 0)", it.inSpan(8, 0), false);
        due("inSpan(-1, 343)", it.inSpan(-1, 343), false);
        due("inSpan(7, 343)", it.inSpan(7, 343), false);
    }

    /** Leads from point 0 over two other points to point 7 with the numbers of the triple. */
    private static void leadToSeven(AffineInvariants it, int t, int over, int thenOver) {
        it.assign(ends(0, over), 0, digits(0, 0, 0, t % 7));
        it.assign(ends(over, thenOver), 1, digits(0, 0, 0, t / 7 % 7));
        it.assign(ends(thenOver, 7), 2, digits(0, 0, 0, t / 49));
    }

    private static boolean[] line(int s, int t) {
        boolean[] on = new boolean[343];
        for (int k = 0; k < 7; k++) {
            int x = s % 7 * (8 - k) + t % 7 * k;
            int y = s / 7 % 7 * (8 - k) + t / 7 % 7 * k;
            int z = s / 49 * (8 - k) + t / 49 * k;
            on[triple(x % 7, y % 7, z % 7)] = true;
        }
        return on;
    }

    private static void lineThroughTwoStates() {
        promise = 11;
        for (int s : new int[] {0, 48, 97, 146, 171, 244, 293, 342}) {
            for (int t = 0; t < 343; t++) {
                AffineInvariants it = new AffineInvariants();
                leadToSeven(it, s, 1, 2);
                leadToSeven(it, t, 3, 4);
                due("span(7) of " + s + " and " + t, it.span(7), s == t ? 1 : 7);
                boolean[] on = line(s, t);
                for (int u = 0; u < 343; u++) {
                    due("inSpan(7, " + u + ") of " + s + " and " + t, it.inSpan(7, u), on[u]);
                }
            }
        }
    }

    private static int leftSide(int abc, int t) {
        return (abc % 7 * (t % 7) + abc / 7 % 7 * (t / 7 % 7) + abc / 49 * (t / 49)) % 7;
    }

    /** The span of a point where these states alone are reached, by the document's words. */
    private static boolean[] spanOf(int... states) {
        boolean[] within = new boolean[343];
        Arrays.fill(within, true);
        for (int abc = 0; abc < 343; abc++) {
            int d = leftSide(abc, states[0]);
            boolean holds = true;
            for (int state : states) {
                holds &= leftSide(abc, state) == d;
            }
            for (int t = 0; t < 343; t++) {
                within[t] &= !holds || leftSide(abc, t) == d;
            }
        }
        return within;
    }

    private static void spanAsDue(AffineInvariants it, String states, boolean[] want) {
        int count = 0;
        for (int u = 0; u < 343; u++) {
            due("inSpan(7, " + u + ") of " + states, it.inSpan(7, u), want[u]);
            count += want[u] ? 1 : 0;
        }
        due("span(7) of " + states, it.span(7), count);
    }

    private static AffineInvariants threeStates(int s, int t, int u) {
        AffineInvariants it = new AffineInvariants();
        leadToSeven(it, s, 1, 2);
        leadToSeven(it, t, 3, 4);
        leadToSeven(it, u, 5, 6);
        return it;
    }

    private static void planeThroughThreeStates() {
        promise = 11;
        // The first two pairs lie on the line through the first triple and the last, the third on one
        // through the last alone: a walk over all triples must not end ahead of it.
        int[][] pairs = {{0, 57}, {342, 171}, {105, 18}, {1, 58}, {300, 77}};
        for (int[] pair : pairs) {
            for (int u = 0; u < 343; u++) {
                String states = pair[0] + ", " + pair[1] + ", " + u;
                spanAsDue(threeStates(pair[0], pair[1], u), states, spanOf(pair[0], pair[1], u));
                AffineInvariants it = threeStates(pair[0], pair[1], u);
                it.pass(ends(0, 7));
                spanAsDue(it, states + ", 0", spanOf(pair[0], pair[1], u, 0));
            }
        }
    }

    private static void constant() {
        promise = 12;
        AffineInvariants it = new AffineInvariants();
        it.assign(ends(0, 1), 1, digits(0, 0, 0, 6));
        it.forget(ends(1, 2), 0);
        it.assign(ends(2, 3), 2, digits(1, 0, 0, 0));
        due("constant(0, 0)", it.constant(0, 0), 0);
        due("constant(1, 0)", it.constant(1, 0), 0);
        due("constant(1, 1)", it.constant(1, 1), 6);
        due("constant(1, 2)", it.constant(1, 2), 0);
        due("constant(3, 0)", it.constant(3, 0), NONE);
        due("constant(3, 1)", it.constant(3, 1), 6);
        due("constant(3, 2)", it.constant(3, 2), NONE);
        due("constant(4, 0)", it.constant(4, 0), NONE);
        due("constant(4, 3)", it.constant(4, 3), BAD_NUMBER);
        due("constant(0, 3)", it.constant(0, 3), BAD_NUMBER);
        due("constant(3, -1)", it.constant(3, -1), BAD_NUMBER);
        due("constant(8, 3)", it.constant(8, 3), BAD_POINT);
        due("constant(8, 0)", it.constant(8, 0), BAD_POINT);
        for (int bad : FAR) {
            due("constant(" + bad + ", 0)", it.constant(bad, 0), BAD_POINT);
            due("constant(0, " + bad + ")", it.constant(0, bad), BAD_NUMBER);
            due("constant(7, " + bad + ")", it.constant(7, bad), BAD_NUMBER);
            due("constant(" + bad + " twice)", it.constant(bad, bad), BAD_POINT);
        }
    }

    private static void implies() {
        promise = 13;
        AffineInvariants it = new AffineInvariants();
        it.forget(ends(0, 1), 0);
        it.forget(ends(1, 2), 1);
        it.forget(ends(0, 3), 2);
        it.assign(ends(1, 4), 1, digits(0, 0, 0, 1));
        due("implies(0, 1)", it.implies(0, 1), true);
        due("implies(1, 0)", it.implies(1, 0), false);
        due("implies(1, 2)", it.implies(1, 2), true);
        due("implies(2, 1)", it.implies(2, 1), false);
        due("implies(1, 3)", it.implies(1, 3), false);
        due("implies(3, 1)", it.implies(3, 1), false);
        due("implies(4, 2)", it.implies(4, 2), true);
        due("implies(4, 1)", it.implies(4, 1), false);
        due("implies(1, 4)", it.implies(1, 4), false);
        due("implies(7, 6)", it.implies(7, 6), true);
        for (int point = 0; point < 8; point++) {
            due("implies(" + point + " twice)", it.implies(point, point), true);
            due("implies(7, " + point + ")", it.implies(7, point), true);
            due("implies(" + point + ", 7)", it.implies(point, 7), point > 4);
        }
        for (int bad : FAR) {
            due("implies(" + bad + ", 0)", it.implies(bad, 0), false);
            due("implies(7, " + bad + ")", it.implies(7, bad), false);
            due("implies(" + bad + " twice)", it.implies(bad, bad), false);
        }
        due("implies(8, 8)", it.implies(8, 8), false);
        due("implies(7, 8)", it.implies(7, 8), false);
        due("implies(8, 0)", it.implies(8, 0), false);
    }

    private static void loosest() {
        promise = 14;
        AffineInvariants it = new AffineInvariants();
        due("loosest()", it.loosest(), 1);
        for (int point = 1; point < 8; point++) {
            it.pass(ends(0, point));
            due("loosest() with " + (point + 1) + " of span 1", it.loosest(), point + 1);
        }
        it.forget(ends(7, 7), 0);
        due("loosest() with point 7 alone", it.loosest(), 1);
        it.forget(ends(3, 3), 1);
        due("loosest() with points 3 and 7", it.loosest(), 2);
        it.forget(ends(3, 3), 2);
        due("loosest() with point 3 alone", it.loosest(), 1);
        it.drop();
        due("loosest() with points 3 and 7", it.loosest(), 2);
        it.clear();
        it.forget(0, 0);
        it.pass(ends(0, 4));
        it.assign(ends(4, 5), 0, 0);
        due("loosest() with points 0 and 4", it.loosest(), 2);
    }

    private static void askingChangesNothing() {
        promise = 7;
        AffineInvariants it = new AffineInvariants();
        it.forget(ends(0, 1), 0);
        it.assign(ends(1, 2), 1, digits(1, 0, 0, 3));
        String before = answers(it);
        it.reached(9);
        it.holds(-1, 2401);
        it.equations(8);
        it.span(-5);
        it.inSpan(2, 343);
        it.constant(2, 9);
        it.implies(8, -1);
        same("asking", answers(it), before);
        due("drop()", it.drop(), 1);
    }

    private static void objectsAreApart() {
        promise = 1;
        AffineInvariants one = new AffineInvariants();
        one.forget(0, 0);
        AffineInvariants two = new AffineInvariants();
        due("span(0) of the second", two.span(0), 1);
        two.forget(ends(0, 1), 1);
        due("reached(1) of the first", one.reached(1), false);
        due("drop() of the second", two.drop(), 0);
        due("span(0) of the first", one.span(0), 7);
    }
}
