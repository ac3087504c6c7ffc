/** Promises 22 to 24, and what section 4 of the document says: each sentence at its bounds. */
public final class BoundsOfActsTest {
    private static final int MAX = Integer.MAX_VALUE, MIN = Integer.MIN_VALUE;
    private static final int STRIKES = 0, LEAVES = 1, TELLS = 2;
    private static final int[] EDGES = {MIN, MIN + 1, MIN / 3, -3, -1, 0, 1, 2, MAX / 3, MAX / 3 + 1, MAX / 2, MAX / 2 + 1,
        MAX - 6, MAX - 1, MAX};

    public static void main(String[] args) {
        howManyThereAre();
        wrapping();
        noSuchKindOrAct();
        traceOfTheLatest();
        traceNone();
        bodiesThatRan();
        takenForOne();
        takenRefused();
        Check.end();
    }

    private static PencilStrikes withNumbers(int bargains, int laws) {
        PencilStrikes x = new PencilStrikes();
        for (int i = 0; i < bargains; i++) {
            Check.bargain(x, "a");
        }
        for (int i = 0; i < laws; i++) {
            Check.law(x, "give");
        }
        return x;
    }

    private static void howManyThereAre() {
        Check.sentence("Terms 4", "n how many BARGAINS there are, m how many LAWS");
        PencilStrikes x = new PencilStrikes();
        for (int n = 0; n <= 6; n++) {
            Check.due("n " + n, x.act(0, STRIKES, 0), n);
            Check.due("m 0", x.act(0, LEAVES, 0), n);
            Check.due("one more", Check.bargain(x, "a"), n < 6 ? n : -4);
        }
        Check.due("THE TEXT as a LAW", x.text(1), -10);
        for (int m = 0; m <= 5; m++) {
            Check.due("m " + m, x.act(0, LEAVES, 0), 6 - m);
            Check.due("6 ^ m", x.act(5, STRIKES, 0), 6 ^ m);
            Check.due("one more", Check.law(x, "give"), m < 5 ? m : -4);
        }
        PencilStrikes y = new PencilStrikes();
        Check.bargain(y, "?");
        Check.law(y, "?");
        Check.due("what was not taken is none", y.act(0, LEAVES, 0), 0);
    }

    private static void wrapping() {
        Check.sentence("Terms 4", "ACTS of STRIKES by KIND, with x (wrapping)");
        int[][] numbers = {{0, 0}, {6, 5}, {6, 0}, {0, 5}, {1, 2}};
        for (int[] number : numbers) {
            int n = number[0];
            int m = number[1];
            PencilStrikes x = withNumbers(n, m);
            for (int of : EDGES) {
                int thrice = of * 3 + n;
                int crossed = of + n ^ m;
                int clauses = -(crossed - m);
                Check.due("10", x.act(0, STRIKES, of), of + n);
                Check.due("11", x.act(0, LEAVES, of), of + n - m);
                Check.due("12", x.act(0, TELLS, of), (of + n - m) * 2);
                Check.due("20", x.act(1, STRIKES, of), thrice);
                Check.due("12 of WORDS", x.act(1, TELLS, of), (thrice - m) * 2);
                Check.due("30", x.act(2, LEAVES, of), of + n - m ^ 5);
                Check.due("40", x.act(3, TELLS, of), -(of + n - m) * 2 + 1 + n);
                Check.due("41", x.act(3, LEAVES, of), -(of + n - m));
                Check.due("50", x.act(4, LEAVES, of), thrice - m + 6 + n);
                Check.due("60", x.act(5, TELLS, of), clauses - (clauses * 2 + (1 + n ^ m)));
                Check.due("61", x.act(5, STRIKES, of), crossed);
                Check.due("70", x.act(6, TELLS, of), ((of - n) * 3 + n - m) * 2);
            }
        }
    }

    private static void noSuchKindOrAct() {
        Check.sentence("Promise 22", "0, and no TRACE then: no such KIND, act.");
        int[][] wrong = {{-1, 0}, {7, 0}, {8, 2}, {MAX, 0}, {MIN, 0}, {0, -1}, {0, 3}, {6, 3}, {0, MAX}, {0, MIN}, {7, 3},
            {-1, -1}, {MAX, MIN}};
        for (int[] one : wrong) {
            PencilStrikes x = withNumbers(2, 1);
            Check.due("an act ahead", x.act(6, TELLS, 5), 20);
            Check.due("its TRACE", x.trace(0), 70);
            for (int of : new int[] {0, 5, MAX}) {
                Check.due("act(" + one[0] + ", " + one[1] + ", " + of + ")", x.act(one[0], one[1], of), 0);
            }
            for (int i = 0; i < 6; i++) {
                Check.due("no TRACE", x.trace(i), -1);
            }
            Check.due("no bodies ran", x.count(3), 0);
            Check.due("an act behind", x.act(0, STRIKES, 5), 7);
            Check.due("its TRACE", x.trace(0), 10);
            Check.due("and no more", x.trace(1), -1);
        }
        PencilStrikes x = new PencilStrikes();
        for (int kind = 0; kind <= 6; kind++) {
            for (int act = 0; act <= 2; act++) {
                x.act(kind, act, 1);
                Check.due("there is such a one: " + kind + ", " + act, x.count(3) > 0 ? 1 : 0, 1);
            }
        }
    }

    private static void traceOfTheLatest() {
        Check.sentence("Terms 4", "THE TRACE: the numbers of the bodies that ran in the latest act(), as they began");
        PencilStrikes x = new PencilStrikes();
        Check.due("the longest", x.act(5, TELLS, 0), -1);
        int[] longest = {60, 41, 11, 61, 10, 40, 12, 41, 11, 61, 10, 61, 10};
        for (int i = 0; i < longest.length; i++) {
            Check.due("trace(" + i + ")", x.trace(i), longest[i]);
        }
        Check.due("none behind it", x.trace(longest.length), -1);
        x.act(1, LEAVES, 0);
        int[] shorter = {11, 20, 10};
        for (int i = 0; i < longest.length; i++) {
            Check.due("a shorter one: trace(" + i + ")", x.trace(i), i < shorter.length ? shorter[i] : -1);
        }
        x.reads(0, 0);
        x.taken(0, 0);
        x.tape(0, 0, 0);
        x.price(0, 0);
        x.feed('a', 1);
        x.text(0);
        Check.due("no other call's", x.trace(0), 11);
        Check.due("no other call's", x.count(3), 3);
        PencilStrikes y = new PencilStrikes();
        Check.due("another object has its own", y.trace(0), -1);
    }

    private static void traceNone() {
        Check.sentence("Promise 23", "THE TRACE's i-th body. NONE. (the first 20 are kept)");
        PencilStrikes x = new PencilStrikes();
        for (int i : new int[] {-1, 0, 1, 19, 20, MAX, MIN}) {
            Check.due("no act yet: trace(" + i + ")", x.trace(i), -1);
        }
        x.act(0, STRIKES, 0);
        Check.due("the only one", x.trace(0), 10);
        for (int i : new int[] {-1, 1, 2, 19, 20, 21, MAX, MIN}) {
            Check.due("trace(" + i + ")", x.trace(i), -1);
        }
        x.act(5, TELLS, 0);
        Check.due("the last of 13", x.trace(12), 10);
        for (int i : new int[] {-1, 13, 14, 19, 20, 21, MAX, MIN}) {
            Check.due("trace(" + i + ")", x.trace(i), -1);
        }
    }

    private static void bodiesThatRan() {
        Check.sentence("Promise 25", "3 bodies that ran in the latest act() (all, kept or not)");
        PencilStrikes x = new PencilStrikes();
        Check.due("none yet", x.count(3), 0);
        int[][] ran = {{1, 2, 3}, {2, 3, 4}, {1, 3, 4}, {1, 3, 6}, {2, 6, 7}, {2, 4, 13}, {2, 3, 5}};
        for (int kind = 0; kind < 7; kind++) {
            for (int act = 0; act < 3; act++) {
                x.act(kind, act, 3);
                Check.due("bodies of " + kind + ", " + act, x.count(3), ran[kind][act]);
            }
        }
    }

    private static void takenForOne() {
        Check.sentence("Promise 24", "A KIND taken for one of KIND k, or one under that: it (the one asked for, not k). CAST.");
        String[] under = {"0123456", "146", "2", "35", "4", "5", "6"};
        for (int k = 0; k < 7; k++) {
            for (int kind = 0; kind < 7; kind++) {
                boolean is = under[k].indexOf('0' + kind) >= 0;
                Check.due("taken(" + kind + ", " + k + ")", new PencilStrikes().taken(kind, k), is ? kind : -12);
            }
        }
    }

    private static void takenRefused() {
        Check.sentence("Promise 24", "BAD: k; NOTHING: no such KIND; CAST.");
        PencilStrikes x = new PencilStrikes();
        for (int wrong : new int[] {-1, 7, 8, MAX, MIN}) {
            for (int other : new int[] {-1, 7, 8, MAX, MIN}) {
                Check.due("BAD is named ahead of NOTHING", x.taken(other, wrong), -2);
            }
            for (int one = 0; one < 7; one++) {
                Check.due("taken(" + one + ", " + wrong + ")", x.taken(one, wrong), -2);
                Check.due("taken(" + wrong + ", " + one + ")", x.taken(wrong, one), -11);
            }
        }
    }
}
