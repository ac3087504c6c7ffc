/** Long runs of calls on the class and on the Model; every answer must be the same. */
public final class AgainstModelTest {
    private static final int RUNS = 400, CALLS = 512;

    public static void main(String[] args) {
        int runs = args.length > 0 ? Integer.parseInt(args[0]) : RUNS;
        for (int run = 0; run < runs; run++) {
            new AgainstModelTest(run).go();
        }
        Check.end();
    }

    private final Dice dice;
    private final PencilStrikes x = new PencilStrikes();
    private final Model y = new Model();
    private final String name;
    private int calls;

    private AgainstModelTest(int run) {
        dice = new Dice(run);
        name = "run " + run + ": ";
    }

    private void due(String call, long got, long want) {
        calls++;
        Check.due(name + call, got, want);
    }

    private void go() {
        while (calls < CALLS) {
            int which = dice.below(calls < 100 ? 8 : 60);
            if (which < 4) {
                text(which % 2);
            } else if (which < 30) {
                ofSets(which);
            } else if (which < 42) {
                ofKinds(dice.number(0, 6), dice.number(0, 3), dice.number(0, 3));
            } else {
                others(which);
            }
        }
    }

    private void text(int what) {
        String text = what == 0 ? dice.bargain() : dice.law();
        if (dice.oneIn(30)) {
            int n = dice.number(0, 4);
            int bytes = dice.number(0, 999999999);
            due("feed " + bytes + " " + n, x.feed(bytes, n), y.feed(bytes, n));
        }
        for (int i = 0; i < text.length();) {
            int n = Math.min(text.length() - i, 1 + dice.below(4));
            int bytes = 0;
            for (int k = 0; k < n; k++) {
                bytes = bytes << 8 | text.charAt(i + k);
            }
            due("feed " + bytes + " " + n, x.feed(bytes, n), y.feed(bytes, n));
            i += n;
        }
        int as = dice.oneIn(20) ? dice.number(-1, 2) : what;
        due("text " + as + " " + text, x.text(as), y.text(as));
    }

    /** Mostly a set of the bargain, and of these mostly one that is let. */
    private int set(int bargain) {
        int words = Math.max(y.word(bargain, -1), 1);
        if (dice.oneIn(3)) {
            return dice.number(-1, (1 << words) - 1);
        }
        int law = dice.below(3);
        int ones = y.good(0, bargain, law, -1);
        return ones > 0 ? y.good(0, bargain, law, dice.below(ones)) : 0;
    }

    private void ofSets(int which) {
        int b = dice.number(0, 3);
        int l = dice.number(0, 3);
        int k = dice.number(0, 6);
        int i = dice.number(-1, 5);
        int set = set(b);
        String by = " " + b + " " + set + " " + l + " " + k + " " + i;
        switch (which % 6) {
            case 0: due("reads" + by, x.reads(b, set), y.reads(b, set)); break;
            case 1: due("means" + by, x.means(b, set, i), y.means(b, set, i)); break;
            case 2: due("lawful" + by, x.lawful(b, set, l), y.lawful(b, set, l)); break;
            case 3: due("barred" + by, x.barred(b, set, l), y.barred(b, set, l)); break;
            case 4: due("let" + by, x.let(k, b, set), y.let(k, b, set)); break;
            default: due("cost" + by, x.cost(b, set, i - 1), y.cost(b, set, i - 1)); break;
        }
    }

    private void ofKinds(int k, int b, int l) {
        String by = " " + k + " " + b + " " + l;
        int i = dice.number(-1, 12);
        due("good" + by + " " + i, x.good(k, b, l, i), y.good(k, b, l, i));
        int set = set(b);
        due("next" + by + " " + set, x.next(k, b, l, set), y.next(k, b, l, set));
        due("least" + by, x.least(k, b, l), y.least(k, b, l));
        due("inAll" + by, x.inAll(k, b, l), y.inAll(k, b, l));
        due("plain" + by, x.plain(b), y.plain(b));
        int who = dice.number(0, 2);
        due("dear" + by + " " + who, x.dear(k, b, l, who), y.dear(k, b, l, who));
        due("alone" + by, x.alone(k, b), y.alone(k, b));
        due("apart" + by, x.apart(k, b, l), y.apart(k, b, l));
        due("saves" + by, x.saves(b, l), y.saves(b, l));
        table(k, b, l);
    }

    /** A row that tells the GOOD ones, mostly, at times one wrong. */
    private void table(int k, int b, int l) {
        int tape = dice.number(0, 5);
        int from = dice.number(0, 3);
        int ones = y.good(k, b, l, -1);
        if (ones >= 0 && dice.oneIn(3)) {
            int n = dice.number(0, 20);
            due("tape", x.tape(tape, 1, n), y.tape(tape, 1, n));
            for (int i = 0; i < Math.min(ones, 20); i++) {
                int one = dice.oneIn(20) ? dice.below(4096) : y.good(k, b, l, i);
                due("item", x.item(tape, from + i, one), y.item(tape, from + i, one));
            }
        }
        String call = "table " + tape + " " + from + " " + k + " " + b + " " + l;
        due(call, x.table(tape, from, k, b, l), y.table(tape, from, k, b, l));
    }

    private void others(int which) {
        int p = dice.number(0, 6);
        int q = dice.number(-1, 5);
        int r = dice.number(-1, 62);
        String by = " " + p + " " + q + " " + r;
        long v = dice.item();
        switch (which % 12) {
            case 0: due("act" + by, x.act(p, q, r), y.act(p, q, r)); break;
            case 1: due("trace" + r / 3, x.trace(r / 3), y.trace(r / 3)); break;
            case 2: due("taken" + by, x.taken(p, q), y.taken(p, q)); break;
            case 3: due("count" + q, x.count(q), y.count(q)); break;
            case 4: due("tape" + by, x.tape(p, q, r), y.tape(p, q, r)); break;
            case 5: due("item" + by + " " + v, x.item(p, r, v), y.item(p, r, v)); break;
            case 6: due("read" + by, x.read(p, r), y.read(p, r)); break;
            case 7: case 8: shift(p, q, r); break;
            case 9: due("price" + by, x.price(p, r), y.price(p, r)); break;
            case 10: due("word" + by, x.word(q, p - 1), y.word(q, p - 1)); break;
            default: due("read" + by, x.read(p, q), y.read(p, q)); break;
        }
    }

    private void shift(int p, int q, int r) {
        int other = dice.oneIn(2) ? p : dice.number(0, 5);
        int n = dice.number(0, 12);
        String by = " " + p + " " + r + " " + other + " " + q + " " + n;
        due("shift" + by, x.shift(p, r, other, q, n), y.shift(p, r, other, q, n));
        for (int i = 0; i < 10; i++) {
            due("read" + other + " " + i, x.read(other, i), y.read(other, i));
        }
    }
}
