import java.util.ArrayList;
import java.util.Arrays;
import java.util.List;
import java.util.function.Consumer;
import java.util.function.ToIntFunction;
import java.util.stream.IntStream;

/** For each sentence of the document that names a boundary case, a test of its own. */
public final class EdgesTest {
    private static final int BAD_POINT = -1;
    private static final int BAD_NUMBER = -2;
    private static final int FULL = -3;
    private static final int NONE = -4;

    private static final int LAST_POINT = 7;
    private static final int LAST_ENDS = 63;
    private static final int LAST_VARIABLE = 2;
    private static final int LAST_DIGITS = 2400;
    private static final int LAST_TRIPLE = 342;

    private static int wrong = 0;
    private static String sentence = "";

    private static void due(String call, Object got, Object want) {
        if (!got.equals(want)) {
            wrong++;
            System.out.println(sentence + ": " + call + " answered " + got + ", due is " + want);
        }
    }

    private static int ends(int from, int to) {
        return from + 8 * to;
    }

    private static int digits(int a, int b, int c, int d) {
        return a + 7 * b + 49 * c + 343 * d;
    }

    private static int triple(int x, int y, int z) {
        return x + 7 * y + 49 * z;
    }

    /**
     * Numbers that are not in 0 to last: the first on both sides, the least and the greatest int, and
     * some that a remainder, a mask or a narrower type would take for one inside.
     */
    private static int[] outside(int last) {
        return IntStream.of(-1, last + 1, Integer.MIN_VALUE, Integer.MAX_VALUE, -2, last + 2, -last, -last - 1,
                2 * last + 2, 8, 32, 256, -256, 65536, -65536, 1 << 30, Integer.MIN_VALUE + 1, Integer.MAX_VALUE - 1)
                .filter(n -> n < 0 || n > last).distinct().toArray();
    }

    /** A step is {ends} for a pass, {ends, variable} for a forget, {ends, variable, digits} for an assign. */
    private static int add(AffineInvariants it, int... step) {
        if (step.length == 1) {
            return it.pass(step[0]);
        }
        return step.length == 2 ? it.forget(step[0], step[1]) : it.assign(step[0], step[1], step[2]);
    }

    private static AffineInvariants made(int[]... program) {
        AffineInvariants it = new AffineInvariants();
        for (int[] step : program) {
            add(it, step);
        }
        return it;
    }

    private static final int[][] NO_STEPS = {};
    /** Every step changes what is answered, so that a picture shows each of them. */
    private static final int[][] TWELVE_STEPS = {
        {ends(0, 1), 0, digits(0, 0, 0, 3)},
        {ends(1, 2), 1, digits(2, 0, 0, 6)},
        {ends(2, 3), 2},
        {ends(3, 4), 0, digits(1, 1, 1, 0)},
        {ends(4, 5)},
        {ends(0, 5), 1, digits(0, 0, 0, 1)},
        {ends(2, 6), 2, digits(6, 6, 6, 6)},
        {ends(6, 6), 2, digits(0, 0, 1, 1)},
        {ends(1, 1), 1, digits(1, 1, 0, 0)},
        {ends(1, 4)},
        {ends(0, 0), 0},
        {ends(6, 7), 0, digits(5, 4, 3, 2)}};
    private static final int[][] ONE_STEP = first(1);
    private static final int[][] ELEVEN_STEPS = first(11);
    private static final int[][][] PROGRAMS = {NO_STEPS, ONE_STEP, ELEVEN_STEPS, TWELVE_STEPS};
    private static final String[] PICTURES = pictures();

    private static int[][] first(int count) {
        return Arrays.copyOf(TWELVE_STEPS, count);
    }

    private static String spans(AffineInvariants it) {
        StringBuilder text = new StringBuilder();
        for (int point = 0; point < 8; point++) {
            text.append(' ').append(it.span(point));
            for (int variable = 0; variable < 3; variable++) {
                text.append(' ').append(it.constant(point, variable));
            }
        }
        return text.toString();
    }

    /** What the object answers, then again after each drop until none is left: at most 470 calls. */
    private static String picture(AffineInvariants it) {
        StringBuilder text = new StringBuilder();
        for (int point = 0; point < 8; point++) {
            text.append(it.reached(point)).append(it.equations(point)).append(' ');
        }
        text.append(it.loosest());
        int left = 0;
        for (int drops = 0; left != NONE && drops < 14; drops++) {
            text.append(spans(it));
            left = it.drop();
            text.append(" left ").append(left);
        }
        return text.toString();
    }

    private static String[] pictures() {
        String[] all = new String[PROGRAMS.length];
        for (int i = 0; i < all.length; i++) {
            all[i] = picture(made(PROGRAMS[i]));
        }
        return all;
    }

    private static void changesNothing(String call, int program, Consumer<AffineInvariants> calls) {
        AffineInvariants it = made(PROGRAMS[program]);
        calls.accept(it);
        due("after " + call + " with " + PROGRAMS[program].length + " steps all", picture(it), PICTURES[program]);
    }

    private static void refused(String call, int program, ToIntFunction<AffineInvariants> made, int want) {
        changesNothing(call, program, it -> due(call, made.applyAsInt(it), want));
    }

    public static void main(String[] args) {
        termsPicturesTellTheStepsApart();
        termsTestsInTheirOrder();
        termsRefusedCallChangesNothing();
        termsDigitsInAssign();
        termsDigitsInHolds();
        termsAskingChangesNothing();
        termsPointIsTestedFirst();
        termsStepsFromAnyPointToAnyPoint();
        termsUpToTwelveSteps();
        termsModulo();
        termsBeginning();
        termsUnknown();
        termsEquationHolds();
        termsCalls();
        termsLastCall();
        newObject();
        assignEdges();
        forgetEdges();
        passEdges();
        drop();
        clear();
        reached();
        holds();
        equations();
        span();
        inSpan();
        constant();
        constantTests();
        implies();
        impliesWhereNothingIsReached();
        loosest();
        System.out.println(wrong == 0 ? "all answers are as due" : wrong + " answers are not as due");
        if (wrong != 0) {
            System.exit(1);
        }
    }

    /** Without this the tests below that compare pictures could pass for the wrong reason. */
    private static void termsPicturesTellTheStepsApart() {
        sentence = "the pictures";
        List<String> seen = new ArrayList<>();
        for (int count = 0; count <= 12; count++) {
            String spans = spans(made(first(count)));
            due("the picture of " + count + " steps was seen before:", seen.contains(spans), false);
            seen.add(spans);
        }
    }

    private static void termsTestsInTheirOrder() {
        sentence = "Terms, tests are made in the order in which they are named";
        for (int program = 0; program < PROGRAMS.length; program++) {
            int count = PROGRAMS[program].length;
            int last = count == 12 ? FULL : count;
            for (int e : new int[] {-1, 0, 63, 64}) {
                for (int v : new int[] {-1, 0, 2, 3}) {
                    for (int g : new int[] {-1, 0, 2400, 2401}) {
                        boolean numbers = v >= 0 && v <= 2 && g >= 0 && g <= 2400;
                        int want = e < 0 || e > 63 ? BAD_POINT : numbers ? last : BAD_NUMBER;
                        due("assign(" + e + ", " + v + ", " + g + ") with " + count,
                                made(PROGRAMS[program]).assign(e, v, g), want);
                    }
                    int want = e < 0 || e > 63 ? BAD_POINT : v < 0 || v > 2 ? BAD_NUMBER : last;
                    due("forget(" + e + ", " + v + ") with " + count, made(PROGRAMS[program]).forget(e, v), want);
                }
                int want = e < 0 || e > 63 ? BAD_POINT : last;
                due("pass(" + e + ") with " + count, made(PROGRAMS[program]).pass(e), want);
            }
        }
    }

    private static void termsRefusedCallChangesNothing() {
        sentence = "Terms, a refused call changes nothing";
        for (int program = 0; program < PROGRAMS.length; program++) {
            for (int e : outside(LAST_ENDS)) {
                refused("assign(" + e + ", 0, 343)", program, it -> it.assign(e, 0, 343), BAD_POINT);
                refused("forget(" + e + ", 1)", program, it -> it.forget(e, 1), BAD_POINT);
                refused("pass(" + e + ")", program, it -> it.pass(e), BAD_POINT);
            }
            for (int v : outside(LAST_VARIABLE)) {
                refused("assign(0, " + v + ", 343)", program, it -> it.assign(0, v, 343), BAD_NUMBER);
                refused("forget(0, " + v + ")", program, it -> it.forget(0, v), BAD_NUMBER);
            }
            for (int g : outside(LAST_DIGITS)) {
                refused("assign(0, 0, " + g + ")", program, it -> it.assign(0, 0, g), BAD_NUMBER);
            }
        }
        refused("drop()", 0, it -> it.drop(), NONE);
        for (int e : new int[] {0, ends(0, 7), ends(7, 0), 63}) {
            refused("assign(" + e + ", 2, 2400)", 3, it -> it.assign(e, 2, 2400), FULL);
            refused("forget(" + e + ", 2)", 3, it -> it.forget(e, 2), FULL);
            refused("pass(" + e + ")", 3, it -> it.pass(e), FULL);
        }
    }

    /** Leads over points 1 and 2 to point 3, where (x, y, z) = (2, 3, 5), and has one step more to point 4. */
    private static AffineInvariants fromTwoThreeFive(int variable, int digits) {
        return made(new int[][] {{ends(0, 1), 0, 343 * 2}, {ends(1, 2), 1, 343 * 3}, {ends(2, 3), 2, 343 * 5},
            {ends(3, 4), variable, digits}});
    }

    private static void termsDigitsInAssign() {
        sentence = "Terms, numbers are packed as digits in base 7, a the lowest (0 to 2400), in assign";
        for (int d = 0; d < 7; d++) {
            for (int abc = 0; abc < 343; abc++) {
                int a = abc % 7;
                int b = abc / 7 % 7;
                int c = abc / 49;
                int g = digits(a, b, c, d);
                int want = (2 * a + 3 * b + 5 * c + d) % 7;
                for (int variable = 0; variable < 3; variable++) {
                    due("constant(4, " + variable + ") after assign(35, " + variable + ", " + g + ")",
                            fromTwoThreeFive(variable, g).constant(4, variable), want);
                }
            }
        }
        due("assign(0, 0, 0)", new AffineInvariants().assign(0, 0, 0), 0);
        due("assign(0, 0, 2400)", new AffineInvariants().assign(0, 0, 2400), 0);
        due("assign(0, 0, -1)", new AffineInvariants().assign(0, 0, -1), BAD_NUMBER);
        due("assign(0, 0, 2401)", new AffineInvariants().assign(0, 0, 2401), BAD_NUMBER);
    }

    private static void termsDigitsInHolds() {
        sentence = "Terms, numbers are packed as digits in base 7, a the lowest (0 to 2400), in holds";
        AffineInvariants it = fromTwoThreeFive(0, 1);
        for (int g = 0; g <= 2400; g++) {
            if (g % 500 == 0) {
                it = fromTwoThreeFive(0, 1);
            }
            int left = (g % 7 * 2 + g / 7 % 7 * 3 + g / 49 % 7 * 5) % 7;
            due("holds(3, " + g + ")", it.holds(3, g), left == g / 343);
        }
    }

    private static List<Consumer<AffineInvariants>> questions(int point, int other) {
        return List.of(it -> it.reached(point), it -> it.holds(point, other), it -> it.equations(point),
                it -> it.span(point), it -> it.inSpan(point, other), it -> it.constant(point, other),
                it -> it.implies(point, other), it -> it.loosest());
    }

    private static void termsAskingChangesNothing() {
        sentence = "Terms, the calls below change nothing";
        int[] numbers = {Integer.MIN_VALUE, -1, 0, 1, 2, 3, 7, 8, 342, 343, 2400, 2401, Integer.MAX_VALUE};
        for (int program = 0; program < PROGRAMS.length; program++) {
            for (int point : new int[] {Integer.MIN_VALUE, -1, 0, 1, 5, 7, 8, Integer.MAX_VALUE}) {
                for (int kind = 0; kind < 8; kind++) {
                    int which = kind;
                    changesNothing("question " + kind + " about point " + point, program, it -> {
                        for (int other : numbers) {
                            questions(point, other).get(which).accept(it);
                        }
                    });
                }
            }
        }
    }

    private static void termsPointIsTestedFirst() {
        sentence = "Terms, a point not in 0 to 7 is BAD_POINT (false for booleans), tested first";
        int[] others = {Integer.MIN_VALUE, -1, 0, 2, 3, 342, 343, 2400, 2401, Integer.MAX_VALUE};
        for (int[][] program : PROGRAMS) {
            for (int point : outside(LAST_POINT)) {
                AffineInvariants it = made(program);
                due("reached(" + point + ")", it.reached(point), false);
                due("equations(" + point + ")", it.equations(point), BAD_POINT);
                due("span(" + point + ")", it.span(point), BAD_POINT);
                for (int other : others) {
                    due("holds(" + point + ", " + other + ")", it.holds(point, other), false);
                    due("inSpan(" + point + ", " + other + ")", it.inSpan(point, other), false);
                    due("constant(" + point + ", " + other + ")", it.constant(point, other), BAD_POINT);
                    due("implies(" + point + ", " + other + ")", it.implies(point, other), false);
                    due("implies(" + other + ", " + point + ")", it.implies(other, point), false);
                }
            }
        }
        for (int point : new int[] {0, 7}) {
            AffineInvariants it = made(new int[] {ends(0, 7)});
            due("reached(" + point + ")", it.reached(point), true);
            due("holds(" + point + ", 0)", it.holds(point, 0), true);
            due("equations(" + point + ")", it.equations(point), 343);
            due("span(" + point + ")", it.span(point), 1);
            due("inSpan(" + point + ", 0)", it.inSpan(point, 0), true);
            due("constant(" + point + ", 0)", it.constant(point, 0), 0);
            due("implies(" + point + ", " + (7 - point) + ")", it.implies(point, 7 - point), true);
        }
    }

    private static void termsStepsFromAnyPointToAnyPoint() {
        sentence = "Terms, steps lead from a point to a point (also to itself)";
        for (int from = 0; from < 8; from++) {
            for (int to = 0; to < 8; to++) {
                AffineInvariants passing = made(new int[] {ends(0, from)}, new int[] {ends(from, to)});
                AffineInvariants assigning = made(new int[] {ends(0, from)},
                        new int[] {ends(from, to), 1, digits(0, 0, 0, 4)});
                AffineInvariants forgetting = made(new int[] {ends(0, from)}, new int[] {ends(from, to), 2});
                String step = " with a step from " + from + " to " + to;
                for (int point = 0; point < 8; point++) {
                    boolean old = point == 0 || point == from;
                    due("reached(" + point + ")" + step, passing.reached(point), old || point == to);
                    due("span(" + point + ")" + step, passing.span(point), old || point == to ? 1 : 0);
                }
                // With y = 4 taken at 'to', and y = 0 there as well if it was reached already.
                boolean toWasReached = to == 0 || to == from;
                due("constant(" + to + ", 1)" + step, assigning.constant(to, 1), toWasReached ? NONE : 4);
                due("span(" + to + ")" + step, assigning.span(to), toWasReached ? 7 : 1);
                due("span(" + to + ") forgetting" + step, forgetting.span(to), 7);
            }
        }
    }

    private static void termsUpToTwelveSteps() {
        sentence = "Terms, up to twelve steps";
        int[][] kinds = {{0}, {0, 0}, {0, 0, 1}};
        for (int[] step : kinds) {
            AffineInvariants it = new AffineInvariants();
            for (int number = 0; number < 12; number++) {
                due("step " + number, add(it, step), number);
            }
            for (int[] more : kinds) {
                due("a thirteenth step", add(it, more), FULL);
            }
            due("drop()", it.drop(), 11);
            due("the twelfth again", add(it, step), 11);
            due("a thirteenth step", add(it, step), FULL);
        }
        // All twelve are followed: seven lead to the points, five more widen the last.
        AffineInvariants it = new AffineInvariants();
        for (int point = 0; point < 7; point++) {
            due("pass", it.pass(ends(point, point + 1)), point);
        }
        due("back from 7", it.assign(ends(7, 0), 0, digits(1, 0, 0, 1)), 7);
        due("spans of 7 at point 7", it.span(7), 7);
        due("y", it.assign(ends(3, 3), 1, digits(1, 0, 0, 0)), 8);
        due("spans of 49 at point 7", it.span(7), 49);
        due("pass", it.pass(ends(7, 7)), 9);
        due("pass", it.pass(ends(0, 7)), 10);
        due("span(7)", it.span(7), 49);
        due("the twelfth", it.forget(ends(7, 7), 2), 11);
        due("span(7)", it.span(7), 343);
        due("span(0)", it.span(0), 343);
    }

    private static void termsModulo() {
        sentence = "Terms, modulo 7";
        for (int variable = 0; variable < 3; variable++) {
            int itself = new int[] {1, 7, 49}[variable];
            AffineInvariants it = new AffineInvariants();
            for (int point = 0; point < 7; point++) {
                it.assign(ends(point, point + 1), variable, itself + 343);
            }
            for (int point = 0; point < 8; point++) {
                due("constant(" + point + ", " + variable + ")", it.constant(point, variable), point % 7);
            }
        }
        // The greatest sum that can come about: 6 * 6 + 6 * 6 + 6 * 6 + 6 = 114.
        AffineInvariants it = made(new int[][] {{ends(0, 1), 0, 343 * 6}, {ends(1, 2), 1, 343 * 6},
            {ends(2, 3), 2, 343 * 6}, {ends(3, 4), 2, 2400}});
        due("constant(4, 2)", it.constant(4, 2), 2);
        due("holds(3, 6x + 6y + 6z = 3)", it.holds(3, digits(6, 6, 6, 3)), true);
        due("holds(3, 6x + 6y + 6z = 6)", it.holds(3, 2400), false);
        due("inSpan(3, 342)", it.inSpan(3, 342), true);
    }

    private static void termsBeginning() {
        sentence = "Terms, the program begins at point 0 with x = y = z = 0";
        // The beginning stays reached, whatever leads back to point 0.
        AffineInvariants it = made(new int[] {ends(0, 0), 0, digits(0, 0, 0, 1)});
        due("inSpan(0, 0)", it.inSpan(0, 0), true);
        due("inSpan(0, 1)", it.inSpan(0, 1), true);
        due("span(0)", it.span(0), 7);
        it = made(new int[] {ends(0, 1), 1, digits(0, 0, 0, 5)}, new int[] {ends(1, 0), 2, digits(0, 1, 0, 0)});
        due("inSpan(0, 0)", it.inSpan(0, 0), true);
        due("inSpan(0, 0 5 5)", it.inSpan(0, triple(0, 5, 5)), true);
        due("holds(0, y = z)", it.holds(0, digits(0, 1, 6, 0)), true);
        // No other point begins: steps between points that are not reached do nothing.
        it = made(new int[] {ends(1, 1)}, new int[] {ends(1, 0), 0}, new int[] {ends(2, 7), 1, 343});
        due("span(0)", it.span(0), 1);
        due("span(1)", it.span(1), 0);
        due("span(7)", it.span(7), 0);
    }

    private static void termsUnknown() {
        sentence = "Terms, with UNKNOWN it may become each of the seven numbers, the variable alone changes";
        int[] weights = {1, 7, 49};
        for (int variable = 0; variable < 3; variable++) {
            AffineInvariants it = made(new int[][] {{ends(0, 1), 0, 343 * 2}, {ends(1, 2), 1, 343 * 3},
                {ends(2, 3), 2, 343 * 5}, {ends(3, 4), variable}});
            int at = triple(2, 3, 5);
            int old = at / weights[variable] % 7;
            for (int t = 0; t <= LAST_TRIPLE; t++) {
                int value = t / weights[variable] % 7;
                due("inSpan(4, " + t + ")", it.inSpan(4, t), t == at + (value - old) * weights[variable]);
            }
            due("span(3)", it.span(3), 1);
        }
    }

    private static void termsEquationHolds() {
        sentence = "Terms, an equation holds if all states reached there keep to it (also if there are none)";
        for (int point = 1; point < 8; point++) {
            AffineInvariants it = new AffineInvariants();
            for (int g = 0; g <= LAST_DIGITS; g++) {
                if (g % 500 == 0) {
                    it = new AffineInvariants();
                }
                due("holds(" + point + ", " + g + ") of none", it.holds(point, g), true);
            }
        }
        // Of two states one alone keeps to it, first the one, then the other.
        AffineInvariants it = made(new int[] {ends(0, 1)}, new int[] {ends(0, 1), 0, digits(0, 0, 0, 4)});
        due("holds(1, x = 0)", it.holds(1, digits(1, 0, 0, 0)), false);
        due("holds(1, x = 4)", it.holds(1, digits(1, 0, 0, 4)), false);
        due("holds(1, y = 0)", it.holds(1, digits(0, 1, 0, 0)), true);
        // The last state that is reached there, (6, 6, 6), is looked at too.
        it = made(new int[][] {{ends(0, 2), 0, 343 * 6}, {ends(2, 3), 1, 343 * 6}, {ends(3, 7), 2, 343 * 6},
            {ends(0, 7)}});
        due("holds(7, x = 0)", it.holds(7, digits(1, 0, 0, 0)), false);
        due("holds(7, x = y)", it.holds(7, digits(1, 6, 0, 0)), true);
        due("holds(7, x = z)", it.holds(7, digits(1, 0, 6, 0)), true);
    }

    private static void termsCalls() {
        sentence = "An object is used for at most 512 calls";
        AffineInvariants it = new AffineInvariants();
        for (int round = 0; round < 73; round++) {
            due("forget in round " + round, it.forget(ends(0, 7), 0), 0);
            due("pass in round " + round, it.pass(ends(7, 6)), 1);
            due("span(6) in round " + round, it.span(6), 7);
            due("drop() in round " + round, it.drop(), 1);
            due("span(6) in round " + round, it.span(6), 0);
            due("drop() in round " + round, it.drop(), 0);
            due("drop() in round " + round, it.drop(), NONE);
        }
        due("the call 512: span(0)", it.span(0), 1);
    }

    /** The program after 511 calls, in which every kind of call has been made, also refused ones. */
    private static AffineInvariants usedForAllCallsButOne(int[][] program) {
        AffineInvariants it = new AffineInvariants();
        for (int round = 0; round < 49; round++) {
            add(it, TWELVE_STEPS[round % 12]);
            it.assign(64, 0, 0);
            it.forget(ends(0, 7), 2);
            it.span(round % 8);
            it.equations(round % 8);
            it.implies(0, round % 8);
            it.inSpan(7, round);
            it.constant(7, 2);
            it.holds(round % 8, 49 * round);
            if (round % 2 == 0) {
                it.drop();
            } else {
                it.loosest();
            }
        }
        it.clear();
        for (int[] step : program) {
            add(it, step);
        }
        for (int calls = 49 * 10 + 1 + program.length; calls < 511; calls++) {
            it.reached(calls % 8);
        }
        return it;
    }

    private static void termsLastCall() {
        sentence = "An object is used for at most 512 calls, and each may be the last";
        List<ToIntFunction<AffineInvariants>> calls = List.of(it -> it.assign(0, 0, 0), it -> it.assign(0, 3, 0),
                it -> it.forget(63, 2), it -> it.forget(64, 2), it -> it.pass(1), it -> it.pass(-1),
                it -> it.drop(), it -> it.equations(6), it -> it.span(5), it -> it.constant(2, 1),
                it -> it.loosest(), it -> it.reached(7) ? 1 : 0, it -> it.holds(6, 0) ? 1 : 0,
                it -> it.holds(6, 343) ? 1 : 0, it -> it.inSpan(5, 0) ? 1 : 0, it -> it.inSpan(0, 7) ? 1 : 0,
                it -> it.implies(1, 0) ? 1 : 0, it -> it.implies(1, 1) ? 1 : 0);
        for (int[][] program : PROGRAMS) {
            for (int call = 0; call < calls.size(); call++) {
                int got = calls.get(call).applyAsInt(usedForAllCallsButOne(program));
                int want = calls.get(call).applyAsInt(made(program));
                due("as its 512th call the call " + call + " of the list", got, want);
            }
        }
    }

    private static void noSteps(AffineInvariants it) {
        for (int point = 0; point < 8; point++) {
            boolean first = point == 0;
            due("reached(" + point + ")", it.reached(point), first);
            due("span(" + point + ")", it.span(point), first ? 1 : 0);
            due("equations(" + point + ")", it.equations(point), first ? 343 : 2401);
            due("inSpan(" + point + ", 0)", it.inSpan(point, 0), first);
            due("inSpan(" + point + ", 342)", it.inSpan(point, 342), false);
            due("holds(" + point + ", 342)", it.holds(point, 342), true);
            due("holds(" + point + ", 343)", it.holds(point, 343), !first);
            for (int variable = 0; variable < 3; variable++) {
                due("constant(" + point + ", " + variable + ")", it.constant(point, variable), first ? 0 : NONE);
            }
            due("implies(" + point + ", 0)", it.implies(point, 0), true);
            due("implies(0, " + point + ")", it.implies(0, point), first);
        }
        due("loosest()", it.loosest(), 1);
        due("drop()", it.drop(), NONE);
        due("pass(0)", it.pass(0), 0);
        due("drop()", it.drop(), 0);
    }

    private static void newObject() {
        sentence = "Promise 1, no steps";
        noSteps(new AffineInvariants());
        // Nor is anything kept over from an object made before.
        made(TWELVE_STEPS);
        noSteps(new AffineInvariants());
    }

    private static void assignEdges() {
        sentence = "Promise 2, assign";
        for (int[][] program : new int[][][] {NO_STEPS, ELEVEN_STEPS}) {
            int number = program.length;
            for (int e : new int[] {0, 63}) {
                for (int v : new int[] {0, 2}) {
                    for (int g : new int[] {0, 2400}) {
                        due("assign(" + e + ", " + v + ", " + g + ")", made(program).assign(e, v, g), number);
                    }
                }
            }
        }
        for (int[][] program : PROGRAMS) {
            AffineInvariants it = made(program);
            for (int e : outside(LAST_ENDS)) {
                due("assign(" + e + ", 0, 0)", it.assign(e, 0, 0), BAD_POINT);
                due("assign(" + e + ", -1, 0)", it.assign(e, -1, 0), BAD_POINT);
                due("assign(" + e + ", 0, 2401)", it.assign(e, 0, 2401), BAD_POINT);
                due("assign(" + e + ", 3, -1)", it.assign(e, 3, -1), BAD_POINT);
            }
            for (int v : outside(LAST_VARIABLE)) {
                due("assign(0, " + v + ", 0)", it.assign(0, v, 0), BAD_NUMBER);
                due("assign(63, " + v + ", 2401)", it.assign(63, v, 2401), BAD_NUMBER);
            }
            for (int g : outside(LAST_DIGITS)) {
                due("assign(0, 0, " + g + ")", it.assign(0, 0, g), BAD_NUMBER);
                due("assign(63, 2, " + g + ")", it.assign(63, 2, g), BAD_NUMBER);
            }
        }
        AffineInvariants it = made(ELEVEN_STEPS);
        due("the twelfth", it.assign(0, 0, 0), 11);
        due("a thirteenth", it.assign(0, 0, 0), FULL);
        due("a thirteenth", it.assign(63, 2, 2400), FULL);
    }

    private static void forgetEdges() {
        sentence = "Promise 3, forget";
        for (int[][] program : new int[][][] {NO_STEPS, ELEVEN_STEPS}) {
            for (int e : new int[] {0, 63}) {
                for (int v : new int[] {0, 2}) {
                    due("forget(" + e + ", " + v + ")", made(program).forget(e, v), program.length);
                }
            }
        }
        for (int[][] program : PROGRAMS) {
            AffineInvariants it = made(program);
            for (int e : outside(LAST_ENDS)) {
                due("forget(" + e + ", 0)", it.forget(e, 0), BAD_POINT);
                due("forget(" + e + ", -1)", it.forget(e, -1), BAD_POINT);
                due("forget(" + e + ", 3)", it.forget(e, 3), BAD_POINT);
            }
            for (int v : outside(LAST_VARIABLE)) {
                due("forget(0, " + v + ")", it.forget(0, v), BAD_NUMBER);
                due("forget(63, " + v + ")", it.forget(63, v), BAD_NUMBER);
            }
        }
        AffineInvariants it = made(ELEVEN_STEPS);
        due("the twelfth", it.forget(0, 0), 11);
        due("a thirteenth", it.forget(0, 0), FULL);
        due("a thirteenth", it.forget(63, 2), FULL);
    }

    private static void passEdges() {
        sentence = "Promise 4, pass";
        for (int[][] program : new int[][][] {NO_STEPS, ELEVEN_STEPS}) {
            due("pass(0)", made(program).pass(0), program.length);
            due("pass(63)", made(program).pass(63), program.length);
        }
        for (int[][] program : PROGRAMS) {
            AffineInvariants it = made(program);
            for (int e : outside(LAST_ENDS)) {
                due("pass(" + e + ")", it.pass(e), BAD_POINT);
            }
        }
        AffineInvariants it = made(ELEVEN_STEPS);
        due("the twelfth", it.pass(0), 11);
        due("a thirteenth", it.pass(0), FULL);
        due("a thirteenth", it.pass(63), FULL);
    }

    private static void drop() {
        sentence = "Promise 5, there is none: NONE; else answers how many are left";
        AffineInvariants it = new AffineInvariants();
        due("drop() of none", it.drop(), NONE);
        due("drop() of none", it.drop(), NONE);
        due("the first step", it.pass(0), 0);
        due("drop() of one", it.drop(), 0);
        due("drop() of none", it.drop(), NONE);
        it = made(TWELVE_STEPS);
        for (int left = 11; left >= 0; left--) {
            due("drop()", it.drop(), left);
        }
        due("drop() of none", it.drop(), NONE);
        noSteps(it);
        // It is the last that goes, and nothing that it alone had reached stays.
        it = made(TWELVE_STEPS);
        for (int left = 11; left >= 0; left--) {
            it.drop();
            due("spans and constants with " + left + " left", spans(it), spans(made(first(left))));
        }
        // What took the place of a dropped step is followed, and not the dropped one.
        it = made(ELEVEN_STEPS);
        it.pass(ends(0, 7));
        it.drop();
        due("reached(7)", it.reached(7), false);
        it.forget(ends(1, 7), 2);
        due("constant(7, 2)", it.constant(7, 2), NONE);
    }

    private static void clear() {
        sentence = "Promise 6, takes all steps out";
        for (int count = 0; count <= 12; count++) {
            AffineInvariants it = made(first(count));
            it.clear();
            noSteps(it);
            it.clear();
            it.clear();
            noSteps(it);
        }
        AffineInvariants it = made(TWELVE_STEPS);
        it.clear();
        for (int number = 0; number < 12; number++) {
            due("step " + number + " after clear()", it.pass(0), number);
        }
        due("a thirteenth step after clear()", it.pass(0), FULL);
    }

    private static void reached() {
        sentence = "Promise 7, whether some state is reached at the point";
        AffineInvariants it = new AffineInvariants();
        due("reached(0) with no steps", it.reached(0), true);
        due("reached(1) with no steps", it.reached(1), false);
        due("reached(7) with no steps", it.reached(7), false);
        // One state, and not the one with all numbers 0.
        it = made(new int[] {ends(0, 7), 2, digits(0, 0, 0, 6)});
        due("reached(7) with one state", it.reached(7), true);
        due("reached(6)", it.reached(6), false);
        // Eleven steps in a ring over points 1 to 7 that nothing leads into; the twelfth leads into it.
        it = new AffineInvariants();
        for (int step = 0; step < 11; step++) {
            it.pass(ends(1 + step % 7, 1 + (step + 1) % 7));
        }
        due("reached(1) in a ring", it.reached(1), false);
        due("reached(7) in a ring", it.reached(7), false);
        it.pass(ends(0, 5));
        for (int point = 0; point < 8; point++) {
            due("reached(" + point + ") in a ring that is led into", it.reached(point), true);
        }
        for (int point : outside(LAST_POINT)) {
            due("reached(" + point + ")", it.reached(point), false);
        }
    }

    private static void holds() {
        sentence = "Promise 8, false if digits not in 0 to 2400";
        // At point 1 no state is reached and every equation holds, at point 7 the state (6, 6, 5) alone.
        AffineInvariants it = made(new int[][] {{ends(0, 2), 0, 343 * 6}, {ends(2, 3), 1, 343 * 6},
            {ends(3, 7), 2, 343 * 5}});
        for (int point : new int[] {0, 1, 7}) {
            due("holds(" + point + ", 0)", it.holds(point, 0), true);
            for (int g : outside(LAST_DIGITS)) {
                due("holds(" + point + ", " + g + ")", it.holds(point, g), false);
            }
        }
        due("holds(1, 2400)", it.holds(1, 2400), true);
        due("holds(0, 2400)", it.holds(0, 2400), false);
        due("holds(0, 342)", it.holds(0, 342), true);
        due("holds(0, 343)", it.holds(0, 343), false);
        // 36 + 36 + 30 = 102 = 4 modulo 7
        due("holds(7, 2400)", it.holds(7, 2400), false);
        due("holds(7, 6x + 6y + 6z = 4)", it.holds(7, digits(6, 6, 6, 4)), true);
        // (1, 0, 0) keeps to the last of all equations, 6x + 6y + 6z = 6.
        it = made(new int[] {ends(0, 7), 0, 343});
        due("holds(7, 2400) of (1, 0, 0)", it.holds(7, 2400), true);
        due("holds(7, 2401) of (1, 0, 0)", it.holds(7, 2401), false);
    }

    private static void equations() {
        sentence = "Promise 9, how many of the 2401 equations hold at the point";
        AffineInvariants it = made(new int[] {ends(0, 1), 0}, new int[] {ends(1, 2), 1}, new int[] {ends(2, 7), 2});
        int[] want = {343, 49, 7, 2401, 2401, 2401, 2401, 1};
        for (int point = 0; point < 8; point++) {
            due("equations(" + point + ")", it.equations(point), want[point]);
            int count = 0;
            AffineInvariants asked = it;
            for (int g = 0; g <= LAST_DIGITS; g++) {
                if (g % 500 == 0) {
                    asked = made(new int[] {ends(0, 1), 0}, new int[] {ends(1, 2), 1}, new int[] {ends(2, 7), 2});
                }
                count += asked.holds(point, g) ? 1 : 0;
            }
            due("how often holds(" + point + ", 0 to 2400)", count, want[point]);
        }
        for (int point : outside(LAST_POINT)) {
            due("equations(" + point + ")", it.equations(point), BAD_POINT);
        }
    }

    private static void span() {
        sentence = "Promise 10, 0, 1, 7, 49 or 343";
        AffineInvariants it = new AffineInvariants();
        due("span(7) of no state", it.span(7), 0);
        it.pass(ends(0, 7));
        due("span(7) of (0, 0, 0)", it.span(7), 1);
        it.pass(ends(0, 7));
        due("span(7) of (0, 0, 0) by two ways", it.span(7), 1);
        it.assign(ends(0, 7), 2, 343 * 6);
        due("span(7) with (0, 0, 6)", it.span(7), 7);
        it.assign(ends(0, 7), 2, 343 * 3);
        due("span(7) with (0, 0, 3) on the same line", it.span(7), 7);
        it.assign(ends(0, 7), 1, 343);
        due("span(7) with (0, 1, 0)", it.span(7), 49);
        it.assign(ends(0, 1), 1, 343 * 5);
        it.assign(ends(1, 7), 2, 343 * 4);
        due("span(7) with (0, 5, 4) in the same plane", it.span(7), 49);
        it.assign(ends(0, 7), 0, 343 * 2);
        due("span(7) with (2, 0, 0)", it.span(7), 343);
        it.forget(ends(7, 7), 0);
        due("span(7) with more in the whole", it.span(7), 343);
        due("span(0)", it.span(0), 1);
        it.drop();
        it.drop();
        due("span(7) with (2, 0, 0) dropped", it.span(7), 49);
        for (int point : outside(LAST_POINT)) {
            due("span(" + point + ")", it.span(point), BAD_POINT);
        }
    }

    private static void inSpan() {
        sentence = "Promise 11, the triple x + 7 * y + 49 * z (0 to 342); false for any other number";
        // The whole at points 0, 1 and 2, so that no number outside is false for the numbers' sake; none at 3.
        AffineInvariants it = made(new int[][] {{0, 0}, {0, 1}, {0, 2}, {ends(0, 1)}, {ends(0, 2)}});
        for (int point = 0; point < 4; point++) {
            due("inSpan(" + point + ", 0)", it.inSpan(point, 0), point < 3);
            due("inSpan(" + point + ", 342)", it.inSpan(point, 342), point < 3);
            for (int t : outside(LAST_TRIPLE)) {
                due("inSpan(" + point + ", " + t + ")", it.inSpan(point, t), false);
            }
        }
        // (6, 6, 6), the last, and (6, 0, 0), (0, 6, 0), (0, 0, 6), each alone.
        it = made(new int[][] {{ends(0, 1), 0, 343 * 6}, {ends(1, 4), 1, 343 * 6}, {ends(4, 7), 2, 343 * 6},
            {ends(0, 2), 1, 343 * 6}, {ends(0, 3), 2, 343 * 6}});
        int[] only = {0, 6, 42, 294, 48, -1, -1, 342};
        for (int point = 0; point < 8; point++) {
            for (int t : new int[] {0, 1, 6, 7, 42, 48, 49, 294, 341, 342}) {
                due("inSpan(" + point + ", " + t + ")", it.inSpan(point, t), t == only[point]);
            }
        }
    }

    private static void constant() {
        sentence = "Promise 12, the value if it is the same in all triples of the span; NONE if not";
        for (int value = 0; value < 7; value++) {
            for (int variable = 0; variable < 3; variable++) {
                AffineInvariants it = made(new int[][] {{ends(0, 7), variable, 343 * value},
                    {ends(7, 7), (variable + 1) % 3}, {ends(7, 7), (variable + 2) % 3}});
                due("span(7)", it.span(7), 49);
                due("constant(7, " + variable + ")", it.constant(7, variable), value);
                due("constant(7, " + (variable + 1) % 3 + ")", it.constant(7, (variable + 1) % 3), NONE);
                due("constant(7, " + (variable + 2) % 3 + ")", it.constant(7, (variable + 2) % 3), NONE);
                it.assign(ends(0, 7), variable, 343 * ((value + 6) % 7));
                due("constant(7, " + variable + ") with one more", it.constant(7, variable), NONE);
            }
        }
    }

    private static void constantTests() {
        sentence = "Promise 12, NONE if the span is empty; variable not in 0 to 2: BAD_NUMBER";
        AffineInvariants it = made(new int[] {ends(0, 6), 1});
        for (int variable = 0; variable < 3; variable++) {
            due("constant(7, " + variable + ")", it.constant(7, variable), NONE);
            due("constant(0, " + variable + ")", it.constant(0, variable), 0);
            due("constant(6, " + variable + ")", it.constant(6, variable), variable == 1 ? NONE : 0);
        }
        // A span that was not empty before and is now.
        due("drop()", it.drop(), 0);
        due("constant(6, 0)", it.constant(6, 0), NONE);
        it.forget(ends(0, 6), 1);
        for (int variable : outside(LAST_VARIABLE)) {
            due("constant(0, " + variable + ")", it.constant(0, variable), BAD_NUMBER);
            due("constant(6, " + variable + ")", it.constant(6, variable), BAD_NUMBER);
            due("constant(7, " + variable + ") of an empty span", it.constant(7, variable), BAD_NUMBER);
            for (int point : outside(LAST_POINT)) {
                due("constant(" + point + ", " + variable + ")", it.constant(point, variable), BAD_POINT);
            }
        }
    }

    private static void implies() {
        sentence = "Promise 13, whether every equation that holds at point q holds at point p";
        // At point 1 x is 0 or 1, at 2 it is 5: not reached at 1, but within its span.
        AffineInvariants it = made(new int[][] {{ends(0, 1)}, {ends(0, 1), 0, 343}, {ends(0, 2), 0, 343 * 5},
            {ends(0, 3), 0}, {ends(0, 7), 1, 343}});
        due("implies(2, 1)", it.implies(2, 1), true);
        due("implies(1, 2)", it.implies(1, 2), false);
        due("implies(1, 3)", it.implies(1, 3), true);
        due("implies(3, 1)", it.implies(3, 1), true);
        due("implies(0, 7)", it.implies(0, 7), false);
        due("implies(7, 0)", it.implies(7, 0), false);
        due("implies(7, 3)", it.implies(7, 3), false);
        due("implies(0, 0)", it.implies(0, 0), true);
        due("implies(7, 7)", it.implies(7, 7), true);
        for (int point : outside(LAST_POINT)) {
            for (int other = 0; other < 8; other++) {
                due("implies(" + point + ", " + other + ")", it.implies(point, other), false);
                due("implies(" + other + ", " + point + ")", it.implies(other, point), false);
            }
            due("implies(" + point + " twice)", it.implies(point, point), false);
        }
    }

    private static void impliesWhereNothingIsReached() {
        sentence = "Promise 13, also where no state is reached at p or at q";
        AffineInvariants it = made(new int[] {ends(0, 1), 0}, new int[] {ends(1, 2), 1}, new int[] {ends(2, 3), 2});
        for (int q = 0; q < 8; q++) {
            for (int p = 0; p < 8; p++) {
                // Each point of 0 to 3 spans more than the one before; at 4 to 7 all equations hold.
                boolean want = p > 3 || q <= 3 && p <= q;
                due("implies(" + p + ", " + q + ")", it.implies(p, q), want);
            }
        }
    }

    private static void loosest() {
        sentence = "Promise 14, how many points have the greatest span of all points";
        due("loosest() with no steps", new AffineInvariants().loosest(), 1);
        AffineInvariants it = new AffineInvariants();
        for (int point = 1; point < 8; point++) {
            it.pass(ends(point - 1, point));
            due("loosest() of points with one state each", it.loosest(), point + 1);
        }
        // Point 7 has 7 alone, then 49; point 6 follows with 7, then 49; point 7 goes on to 343.
        int[][] more = {{63, 0}, {63, 1}, {ends(6, 6), 0}, {ends(6, 6), 1}, {63, 2}};
        int[] want = {1, 1, 1, 2, 1};
        for (int step = 0; step < more.length; step++) {
            due("a step more", add(it, more[step]), 7 + step);
            due("loosest() after it", it.loosest(), want[step]);
        }
        // All eight with the whole.
        it = made(new int[][] {{0, 0}, {0, 1}, {0, 2}});
        due("loosest() with the whole at one", it.loosest(), 1);
        for (int point = 1; point < 8; point++) {
            it.pass(ends(0, point));
            due("loosest() with the whole at " + (point + 1), it.loosest(), point + 1);
        }
        // The greatest at the first point and at the last, smaller ones between.
        it = made(new int[][] {{0, 0}, {ends(0, 7)}, {ends(0, 3), 0, 0}});
        due("loosest() with points 0 and 7", it.loosest(), 2);
    }
}
