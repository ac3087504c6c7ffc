/** Promises 22 to 24: act, trace, taken; and how many bodies ran. */
public final class ActsTest {
    private static final int STRIKES = 0, LEAVES = 1, TELLS = 2;

    public static void main(String[] args) {
        everyAct();
        wrapping();
        traces();
        taken();
        Check.end();
    }

    private static PencilStrikes withNumbers(int n, int m) {
        PencilStrikes x = new PencilStrikes();
        for (int i = 0; i < n; i++) {
            Check.bargain(x, "amw1");
        }
        for (int i = 0; i < m; i++) {
            Check.law(x, "give");
        }
        return x;
    }

    private static void everyAct() {
        for (int n = 0; n <= 6; n += 2) {
            for (int m = 0; m <= 5; m++) {
                PencilStrikes x = withNumbers(n, m);
                for (int of = -9; of <= 9; of += 3) {
                    actsOf(x, n, m, of);
                }
            }
        }
    }

    private static void runs(PencilStrikes x, int kind, int act, int of, int want, int... bodies) {
        String call = "act(" + kind + ", " + act + ", " + of + ")";
        Check.due(call, x.act(kind, act, of), want);
        Check.due("bodies of " + call, x.count(3), bodies.length);
        for (int i = 0; i < bodies.length; i++) {
            Check.due("trace " + i + " of " + call, x.trace(i), bodies[i]);
        }
        Check.due("no trace beyond " + call, x.trace(bodies.length), -1);
        Check.due("no trace ahead of " + call, x.trace(-1), -1);
    }

    private static void actsOf(PencilStrikes x, int n, int m, int of) {
        int plain = of + n;
        int thrice = 3 * of + n;
        runs(x, 0, STRIKES, of, plain, 10);
        runs(x, 0, LEAVES, of, plain - m, 11, 10);
        runs(x, 0, TELLS, of, 2 * (plain - m), 12, 11, 10);
        runs(x, 1, STRIKES, of, thrice, 20, 10);
        runs(x, 1, LEAVES, of, thrice - m, 11, 20, 10);
        runs(x, 1, TELLS, of, 2 * (thrice - m), 12, 11, 20, 10);
        runs(x, 2, STRIKES, of, plain, 10);
        runs(x, 2, LEAVES, of, plain - m ^ 5, 30, 11, 10);
        runs(x, 2, TELLS, of, 2 * (plain - m ^ 5), 12, 30, 11, 10);
        runs(x, 3, STRIKES, of, plain, 10);
        runs(x, 3, LEAVES, of, m - plain, 41, 11, 10);
        runs(x, 3, TELLS, of, 2 * (m - plain) + 1 + n, 40, 12, 41, 11, 10, 10);
        runs(x, 4, STRIKES, of, thrice, 20, 10);
        runs(x, 4, LEAVES, of, thrice - m + 6 + n, 50, 11, 20, 10, 20, 10);
        runs(x, 4, TELLS, of, 2 * (thrice - m + 6 + n), 12, 50, 11, 20, 10, 20, 10);
        int crossed = plain ^ m;
        runs(x, 5, STRIKES, of, crossed, 61, 10);
        runs(x, 5, LEAVES, of, m - crossed, 41, 11, 61, 10);
        runs(x, 5, TELLS, of, m - crossed - (2 * (m - crossed) + (1 + n ^ m)),
            60, 41, 11, 61, 10, 40, 12, 41, 11, 61, 10, 61, 10);
        runs(x, 6, STRIKES, of, thrice, 20, 10);
        runs(x, 6, LEAVES, of, thrice - m, 11, 20, 10);
        runs(x, 6, TELLS, of, 2 * (3 * (of - n) + n - m), 70, 12, 11, 20, 10);
    }

    private static void wrapping() {
        PencilStrikes x = withNumbers(1, 2);
        int max = Integer.MAX_VALUE;
        Check.due("x + n", x.act(0, STRIKES, max), Integer.MIN_VALUE);
        Check.due("x * 3", x.act(1, STRIKES, max), max - 1);
        Check.due("- m", x.act(0, LEAVES, Integer.MIN_VALUE), max);
        Check.due("* 2", x.act(0, TELLS, max), -4);
        Check.due("-least", x.act(3, LEAVES, Integer.MIN_VALUE + 1), Integer.MIN_VALUE);
    }

    private static void traces() {
        PencilStrikes x = withNumbers(0, 0);
        Check.due("none yet", x.trace(0), -1);
        int[][] none = {{7, 0}, {-1, 0}, {0, 3}, {0, -1}, {7, 3}, {Integer.MIN_VALUE, 0}, {0, Integer.MAX_VALUE}};
        for (int[] wrong : none) {
            Check.due("tells", x.act(0, TELLS, 4), 8);
            Check.due("bodies", x.count(3), 3);
            Check.due("no such", x.act(wrong[0], wrong[1], 4), 0);
            Check.due("no bodies", x.count(3), 0);
            Check.due("no trace", x.trace(0), -1);
        }
        x.act(5, TELLS, 1);
        for (int i : new int[] {-1, 13, 19, 20, 21, Integer.MAX_VALUE, Integer.MIN_VALUE}) {
            Check.due("trace(" + i + ")", x.trace(i), -1);
        }
    }

    private static void taken() {
        PencilStrikes x = new PencilStrikes();
        int[][] upTo = {{0}, {1, 0}, {2, 0}, {3, 0}, {4, 1, 0}, {5, 3, 0}, {6, 1, 0}};
        for (int kind = 0; kind < 7; kind++) {
            for (int k = 0; k < 7; k++) {
                int want = -12;
                for (int above : upTo[kind]) {
                    want = above == k ? kind : want;
                }
                Check.due("taken(" + kind + ", " + k + ")", x.taken(kind, k), want);
            }
        }
        for (int wrong : new int[] {-1, 7, 8, Integer.MAX_VALUE, Integer.MIN_VALUE}) {
            Check.due("BAD", x.taken(0, wrong), -2);
            Check.due("BAD ahead of NOTHING", x.taken(wrong, wrong), -2);
            Check.due("NOTHING", x.taken(wrong, 0), -11);
        }
    }
}
