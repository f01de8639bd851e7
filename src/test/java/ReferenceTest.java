import java.util.ArrayList;
import java.util.Arrays;
import java.util.List;
import java.util.stream.IntStream;

/**
 * Long runs of calls, made from fixed seeds, against a slow reference that follows the document's
 * terms word by word (no affine algebra: the span is tried triple by triple, equation by equation).
 */
public final class ReferenceTest {
    private static final int RUNS = 40;
    private static final int CALLS = 500;

    private static int wrong = 0;
    private static long seed = 0;
    private static int run = 0;
    private static final List<String> told = new ArrayList<>();

    /** The same numbers on every machine. */
    private static int next(int bound) {
        seed = seed * 6364136223846793005L + 1442695040888963407L;
        return (int) ((seed >>> 33) % bound);
    }

    private static void due(String call, int got, int want) {
        told.add(call + " -> " + want);
        if (got != want) {
            wrong++;
            if (wrong <= 20) {
                System.out.println("run " + run + ": " + call + " answered " + got + ", due is " + want);
            }
            if (wrong == 1) {
                System.out.println("the calls that led there: " + told);
            }
        }
    }

    private static final class Reference {
        private final List<int[]> steps = new ArrayList<>();
        private final boolean[][] states = new boolean[8][343];
        private final boolean[][] equations = new boolean[8][2401];
        private final boolean[][] span = new boolean[8][343];

        int add(int ends, boolean numbersAreGood, int... step) {
            if (ends < 0 || ends > 63) {
                return -1;
            }
            if (!numbersAreGood) {
                return -2;
            }
            if (steps.size() == 12) {
                return -3;
            }
            steps.add(step);
            return steps.size() - 1;
        }

        int drop() {
            if (steps.isEmpty()) {
                return -4;
            }
            steps.remove(steps.size() - 1);
            return steps.size();
        }

        void clear() {
            steps.clear();
        }

        /** To be called ahead of the reading calls: it is slow, so not after every change. */
        void find() {
            findStates();
            for (int point = 0; point < 8; point++) {
                int[] here = reachedAt(point);
                for (int e = 0; e < 2401; e++) {
                    equations[point][e] = true;
                    for (int i = 0; i < here.length && equations[point][e]; i++) {
                        equations[point][e] = keeps(here[i], e);
                    }
                }
                for (int t = 0; t < 343; t++) {
                    span[point][t] = true;
                    for (int e = 0; e < 2401 && span[point][t]; e++) {
                        span[point][t] = !equations[point][e] || keeps(t, e);
                    }
                }
            }
        }

        private int[] reachedAt(int point) {
            return IntStream.range(0, 343).filter(t -> states[point][t]).toArray();
        }

        private static boolean keeps(int t, int e) {
            int x = t % 7;
            int y = t / 7 % 7;
            int z = t / 49;
            return (e % 7 * x + e / 7 % 7 * y + e / 49 % 7 * z - e / 343) % 7 == 0;
        }

        private void findStates() {
            for (boolean[] atPoint : states) {
                Arrays.fill(atPoint, false);
            }
            states[0][0] = true;
            boolean changed = true;
            while (changed) {
                changed = false;
                for (int[] step : steps) {
                    for (int t = 0; t < 343; t++) {
                        if (states[step[0] % 8][t]) {
                            changed |= follow(step, t);
                        }
                    }
                }
            }
        }

        private boolean follow(int[] step, int t) {
            boolean[] target = states[step[0] / 8];
            int[] v = {t % 7, t / 7 % 7, t / 49};
            boolean changed = false;
            int[] values = new int[0];
            if (step.length == 1) {
                changed = !target[t];
                target[t] = true;
            } else if (step.length == 2) {
                values = new int[] {0, 1, 2, 3, 4, 5, 6};
            } else {
                int g = step[2];
                values = new int[] {(g % 7 * v[0] + g / 7 % 7 * v[1] + g / 49 % 7 * v[2] + g / 343) % 7};
            }
            for (int value : values) {
                v[step[1]] = value;
                int after = v[0] + 7 * v[1] + 49 * v[2];
                changed |= !target[after];
                target[after] = true;
            }
            return changed;
        }

        private static int count(boolean[] marks) {
            int count = 0;
            for (boolean mark : marks) {
                count += mark ? 1 : 0;
            }
            return count;
        }

        int constant(int point, int variable) {
            int weight = new int[] {1, 7, 49}[variable];
            int value = -4;
            for (int t = 0; t < 343; t++) {
                if (span[point][t]) {
                    int here = t / weight % 7;
                    if (value != -4 && value != here) {
                        return -4;
                    }
                    value = here;
                }
            }
            return value;
        }

        boolean implies(int p, int q) {
            for (int e = 0; e < 2401; e++) {
                if (equations[q][e] && !equations[p][e]) {
                    return false;
                }
            }
            return true;
        }

        int loosest() {
            int greatest = 0;
            for (boolean[] marks : span) {
                greatest = Math.max(greatest, count(marks));
            }
            int count = 0;
            for (boolean[] marks : span) {
                count += count(marks) == greatest ? 1 : 0;
            }
            return count;
        }
    }

    /** A number of 0 to bound - 1, now and then one that lies outside. */
    private static int number(int bound) {
        int dice = next(60);
        if (dice == 0) {
            return -1 - next(3);
        }
        if (dice == 1) {
            return bound + next(3);
        }
        return next(bound);
    }

    /** Few points in some runs, so that the steps meet; many in others. */
    private static int ends(int points) {
        return next(40) == 0 ? number(64) : next(points) + 8 * next(points);
    }

    /** Mostly plain assignments, as all four digits free soon make every span the whole. */
    private static int digits() {
        int kind = next(6);
        if (kind == 0) {
            return number(2401);
        }
        if (kind == 1) {
            return 343 * next(7);
        }
        int one = new int[] {1, 7, 49}[next(3)];
        if (kind == 2) {
            return one * next(7) + 343 * next(7);
        }
        return kind == 3 ? one : one + 343 * next(2);
    }

    private static void change(AffineInvariants it, Reference is, int points) {
        int kind = next(20);
        if (kind < 10) {
            int e = ends(points);
            int v = number(3);
            int g = digits();
            due("assign(" + e + ", " + v + ", " + g + ")", it.assign(e, v, g),
                    is.add(e, v >= 0 && v < 3 && g >= 0 && g < 2401, e, v, g));
        } else if (kind < 12) {
            int e = ends(points);
            int v = number(3);
            due("forget(" + e + ", " + v + ")", it.forget(e, v), is.add(e, v >= 0 && v < 3, e, v));
        } else if (kind < 15) {
            int e = ends(points);
            due("pass(" + e + ")", it.pass(e), is.add(e, true, e));
        } else if (kind < 19 || next(3) > 0) {
            due("drop()", it.drop(), is.drop());
        } else {
            it.clear();
            is.clear();
            due("clear()", 0, 0);
        }
    }

    private static void ask(AffineInvariants it, Reference is) {
        int p = number(8);
        boolean good = p >= 0 && p < 8;
        int e = next(2) == 0 ? number(2401) : digits();
        int t = number(343);
        int v = number(3);
        int q = number(8);
        boolean bothGood = good && q >= 0 && q < 8;
        boolean holds = good && e >= 0 && e < 2401 && is.equations[p][e];
        boolean inSpan = good && t >= 0 && t < 343 && is.span[p][t];
        due("reached(" + p + ")", it.reached(p) ? 1 : 0, good && Reference.count(is.states[p]) > 0 ? 1 : 0);
        due("holds(" + p + ", " + e + ")", it.holds(p, e) ? 1 : 0, holds ? 1 : 0);
        due("equations(" + p + ")", it.equations(p), good ? Reference.count(is.equations[p]) : -1);
        due("span(" + p + ")", it.span(p), good ? Reference.count(is.span[p]) : -1);
        due("inSpan(" + p + ", " + t + ")", it.inSpan(p, t) ? 1 : 0, inSpan ? 1 : 0);
        due("constant(" + p + ", " + v + ")", it.constant(p, v),
                !good ? -1 : v < 0 || v > 2 ? -2 : is.constant(p, v));
        due("implies(" + p + ", " + q + ")", it.implies(p, q) ? 1 : 0, bothGood && is.implies(p, q) ? 1 : 0);
        due("loosest()", it.loosest(), is.loosest());
    }

    /** A new object with the steps of the reference, as an object has 512 calls alone. */
    private static AffineInvariants again(Reference is) {
        AffineInvariants it = new AffineInvariants();
        for (int[] s : is.steps) {
            if (s.length == 1) {
                it.pass(s[0]);
            } else if (s.length == 2) {
                it.forget(s[0], s[1]);
            } else {
                it.assign(s[0], s[1], s[2]);
            }
        }
        return it;
    }

    private static void askAll(Reference is) {
        for (int p = 0; p < 8; p++) {
            AffineInvariants it = again(is);
            for (int e = 0; e < 2401; e++) {
                if (e % 490 == 0) {
                    it = again(is);
                }
                due("holds(" + p + ", " + e + ")", it.holds(p, e) ? 1 : 0, is.equations[p][e] ? 1 : 0);
            }
            it = again(is);
            for (int t = 0; t < 343; t++) {
                due("inSpan(" + p + ", " + t + ")", it.inSpan(p, t) ? 1 : 0, is.span[p][t] ? 1 : 0);
            }
        }
    }

    public static void main(String[] args) {
        int[] spans = new int[344];
        for (run = 0; run < RUNS; run++) {
            seed = 1000003L * run + 17;
            told.clear();
            int points = 2 + next(7);
            AffineInvariants it = new AffineInvariants();
            Reference is = new Reference();
            while (told.size() < CALLS) {
                change(it, is, points);
                if (next(3) == 0) {
                    is.find();
                    ask(it, is);
                    spans[Reference.count(is.span[next(points)])]++;
                }
            }
            is.find();
            told.add("and on new objects with the same steps");
            askAll(is);
        }
        System.out.println("spans of 0, 1, 7, 49, 343 seen: " + spans[0] + " " + spans[1] + " " + spans[7] + " "
                + spans[49] + " " + spans[343]);
        System.out.println(wrong == 0 ? "all answers are as due" : wrong + " answers are not as due");
        if (wrong != 0) {
            System.exit(1);
        }
    }
}
