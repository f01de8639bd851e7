/** What always holds between three variables of a small program, modulo 7. */
public final class AffineInvariants {
    public static final int BAD_POINT = -1;
    public static final int BAD_NUMBER = -2;
    public static final int FULL = -3;
    public static final int NONE = -4;

    private static final int POINTS = 8;
    private static final int ENDS = 64;
    private static final int VARIABLES = 3;
    private static final int TRIPLES = 343;
    private static final int EQUATIONS = 2401;
    private static final int STATES = 2744;
    private static final int MOST_STEPS = 12;

    private static final int ASSIGN = 0;
    private static final int FORGET = 1;
    private static final int PASS = 2;

    private final int[] stepKind = new int[MOST_STEPS];
    private final int[] stepEnds = new int[MOST_STEPS];
    private final int[] stepVariable = new int[MOST_STEPS];
    private final int[] stepDigits = new int[MOST_STEPS];
    private int stepCount;

    // A state is numbered 343 * point + triple. What follows is found anew
    // whenever the steps change, so that the asking calls only read it.
    private final boolean[] stateReached = new boolean[STATES];
    private final int[] found = new int[STATES];
    private int foundCount;
    private final boolean[] stateInSpan = new boolean[STATES];
    private final int[] spanSize = new int[POINTS];
    // Some triple of the span; it tells nothing while the span is empty.
    private final int[] spanOrigin = new int[POINTS];

    public AffineInvariants() {
        stepCount = 0;
        followSteps();
    }

    public int assign(int ends, int variable, int digits) {
        if (!isEnds(ends)) {
            return BAD_POINT;
        }
        if (!isVariable(variable) || !isDigits(digits)) {
            return BAD_NUMBER;
        }
        return addStep(ASSIGN, ends, variable, digits);
    }

    public int forget(int ends, int variable) {
        if (!isEnds(ends)) {
            return BAD_POINT;
        }
        if (!isVariable(variable)) {
            return BAD_NUMBER;
        }
        return addStep(FORGET, ends, variable, 0);
    }

    public int pass(int ends) {
        if (!isEnds(ends)) {
            return BAD_POINT;
        }
        return addStep(PASS, ends, 0, 0);
    }

    public int drop() {
        if (stepCount == 0) {
            return NONE;
        }
        stepCount--;
        followSteps();
        return stepCount;
    }

    public void clear() {
        stepCount = 0;
        followSteps();
    }

    public boolean reached(int point) {
        return isPoint(point) && spanSize[point] > 0;
    }

    public boolean holds(int point, int digits) {
        return isPoint(point) && isDigits(digits) && allKeepTo(point, digits);
    }

    public int equations(int point) {
        if (!isPoint(point)) {
            return BAD_POINT;
        }
        int count = 0;
        for (int digits = 0; digits < EQUATIONS; digits++) {
            if (allKeepTo(point, digits)) {
                count++;
            }
        }
        return count;
    }

    public int span(int point) {
        if (!isPoint(point)) {
            return BAD_POINT;
        }
        return spanSize[point];
    }

    public boolean inSpan(int point, int triple) {
        return isPoint(point) && isTriple(triple) && stateInSpan[TRIPLES * point + triple];
    }

    public int constant(int point, int variable) {
        if (!isPoint(point)) {
            return BAD_POINT;
        }
        if (!isVariable(variable)) {
            return BAD_NUMBER;
        }
        if (spanSize[point] == 0) {
            return NONE;
        }
        int value = valueIn(spanOrigin[point], variable);
        for (int triple = 0; triple < TRIPLES; triple++) {
            if (stateInSpan[TRIPLES * point + triple] && valueIn(triple, variable) != value) {
                return NONE;
            }
        }
        return value;
    }

    public boolean implies(int p, int q) {
        if (!isPoint(p) || !isPoint(q)) {
            return false;
        }
        for (int digits = 0; digits < EQUATIONS; digits++) {
            if (allKeepTo(q, digits) && !allKeepTo(p, digits)) {
                return false;
            }
        }
        return true;
    }

    public int loosest() {
        int greatest = 0;
        int count = 0;
        for (int point = 0; point < POINTS; point++) {
            if (spanSize[point] > greatest) {
                greatest = spanSize[point];
                count = 0;
            }
            if (spanSize[point] == greatest) {
                count++;
            }
        }
        return count;
    }

    private static boolean isPoint(int point) {
        return point >= 0 && point < POINTS;
    }

    private static boolean isEnds(int ends) {
        return ends >= 0 && ends < ENDS;
    }

    private static boolean isVariable(int variable) {
        return variable >= 0 && variable < VARIABLES;
    }

    private static boolean isDigits(int digits) {
        return digits >= 0 && digits < EQUATIONS;
    }

    private static boolean isTriple(int triple) {
        return triple >= 0 && triple < TRIPLES;
    }

    private int addStep(int kind, int ends, int variable, int digits) {
        if (stepCount >= MOST_STEPS) {
            return FULL;
        }
        int number = stepCount;
        stepKind[number] = kind;
        stepEnds[number] = ends;
        stepVariable[number] = variable;
        stepDigits[number] = digits;
        stepCount++;
        followSteps();
        return number;
    }

    private void followSteps() {
        findReachedStates();
        findSpans();
    }

    private void findReachedStates() {
        for (int state = 0; state < STATES; state++) {
            stateReached[state] = false;
        }
        foundCount = 0;
        enter(0);
        // The list grows while it is read; no state stands in it twice.
        for (int next = 0; next < STATES && next < foundCount; next++) {
            int point = found[next] / TRIPLES;
            int triple = found[next] % TRIPLES;
            for (int step = 0; step < stepCount; step++) {
                if (stepEnds[step] % POINTS == point) {
                    takeStep(step, triple);
                }
            }
        }
    }

    private void takeStep(int step, int triple) {
        int target = TRIPLES * (stepEnds[step] / POINTS);
        int variable = stepVariable[step];
        if (stepKind[step] == PASS) {
            enter(target + triple);
        } else if (stepKind[step] == ASSIGN) {
            int digits = stepDigits[step];
            int value = (leftSide(digits, triple) + rightSide(digits)) % 7;
            int after = withValue(triple, variable, value);
            enter(target + after);
        } else {
            for (int value = 0; value < 7; value++) {
                int after = withValue(triple, variable, value);
                enter(target + after);
            }
        }
    }

    private void enter(int state) {
        if (!stateReached[state] && foundCount < STATES) {
            stateReached[state] = true;
            found[foundCount] = state;
            foundCount++;
        }
    }

    // 7 is prime, so the triples that keep to every equation that holds are the
    // least affine space around the reached ones; it is grown from these.
    private void findSpans() {
        for (int point = 0; point < POINTS; point++) {
            spanSize[point] = 0;
        }
        for (int state = 0; state < STATES; state++) {
            stateInSpan[state] = false;
        }
        for (int state = 0; state < STATES; state++) {
            if (stateReached[state] && !stateInSpan[state]) {
                int point = state / TRIPLES;
                int triple = state % TRIPLES;
                widenSpan(point, triple);
            }
        }
    }

    private void widenSpan(int point, int triple) {
        int first = TRIPLES * point;
        if (spanSize[point] == 0) {
            spanOrigin[point] = triple;
            spanSize[point] = 1;
            stateInSpan[first + triple] = true;
            return;
        }
        // Triples marked here may be met again by the same loop: harmless, as
        // going on from them in the same direction leads to no others.
        for (int old = 0; old < TRIPLES; old++) {
            if (stateInSpan[first + old]) {
                for (int times = 1; times < 7; times++) {
                    int moved = shifted(old, times, spanOrigin[point], triple);
                    stateInSpan[first + moved] = true;
                }
            }
        }
        spanSize[point] *= 7;
    }

    // The triple moved so many times by the way that leads from one triple to another.
    private static int shifted(int triple, int times, int from, int to) {
        // 7 is added so that no remainder is taken of a negative number.
        int wayX = to % 7 + 7 - from % 7;
        int wayY = to / 7 % 7 + 7 - from / 7 % 7;
        int wayZ = to / 49 % 7 + 7 - from / 49 % 7;
        int x = (triple % 7 + times * wayX) % 7;
        int y = (triple / 7 % 7 + times * wayY) % 7;
        int z = (triple / 49 % 7 + times * wayZ) % 7;
        return x + 7 * y + 49 * z;
    }

    private boolean allKeepTo(int point, int digits) {
        int right = rightSide(digits);
        for (int triple = 0; triple < TRIPLES; triple++) {
            if (stateReached[TRIPLES * point + triple] && leftSide(digits, triple) != right) {
                return false;
            }
        }
        return true;
    }

    // a * x + b * y + c * z modulo 7
    private static int leftSide(int digits, int triple) {
        int ax = (digits % 7) * (triple % 7);
        int by = (digits / 7 % 7) * (triple / 7 % 7);
        int cz = (digits / 49 % 7) * (triple / 49 % 7);
        return (ax + by + cz) % 7;
    }

    // d, the digit that stands alone
    private static int rightSide(int digits) {
        return digits / 343 % 7;
    }

    private static int valueIn(int triple, int variable) {
        if (variable == 0) {
            return triple % 7;
        }
        if (variable == 1) {
            return triple / 7 % 7;
        }
        return triple / 49 % 7;
    }

    private static int withValue(int triple, int variable, int value) {
        if (variable == 0) {
            return triple - triple % 7 + value;
        }
        if (variable == 1) {
            return triple + 7 * (value - triple / 7 % 7);
        }
        return triple % 49 + 49 * value;
    }
}
