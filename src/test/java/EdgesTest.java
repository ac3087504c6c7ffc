/** Every call with numbers far off in every place: it answers as the Model does, and nothing is thrown. */
public final class EdgesTest {
    private static final int[] EDGES = {Integer.MIN_VALUE, Integer.MIN_VALUE + 1, -2, -1, 0, 1, 5, 6, 60, 4095,
        Integer.MAX_VALUE - 1, Integer.MAX_VALUE};

    private final PencilStrikes x = new PencilStrikes();
    private final Model y = new Model();

    public static void main(String[] args) {
        EdgesTest empty = new EdgesTest();
        empty.ofThree();
        empty.ofFive();
        EdgesTest filled = new EdgesTest();
        filled.fill();
        filled.ofThree();
        filled.ofFive();
        Check.end();
    }

    private void fill() {
        lay("amw1,w2f3;bp1", 0);
        lay("amnw1,w2f3", 0);
        lay("most 3;bar t=2", 1);
        lay("sense", 1);
        for (int tape = 0; tape < 6; tape++) {
            due("tape", x.tape(tape, tape - 1, 5 + tape), y.tape(tape, tape - 1, 5 + tape));
        }
    }

    private void lay(String text, int what) {
        for (int i = 0; i < text.length(); i++) {
            due("feed", x.feed(text.charAt(i), 1), y.feed(text.charAt(i), 1));
        }
        due("text", x.text(what), y.text(what));
    }

    private static void due(String call, long got, long want) {
        Check.due(call, got, want);
    }

    private void ofThree() {
        for (int p : EDGES) {
            due("trace", x.trace(p), y.trace(p));
            due("count", x.count(p), y.count(p));
            due("plain", x.plain(p), y.plain(p));
            for (int q : EDGES) {
                String by = " " + p + " " + q;
                due("word" + by, x.word(p, q), y.word(p, q));
                due("reads" + by, x.reads(p, q), y.reads(p, q));
                due("alone" + by, x.alone(p, q), y.alone(p, q));
                due("saves" + by, x.saves(p, q), y.saves(p, q));
                due("taken" + by, x.taken(p, q), y.taken(p, q));
                due("read" + by, x.read(p, q), y.read(p, q));
                due("price" + by, x.price(p, q), y.price(p, q));
                for (int r : EDGES) {
                    ofThree(p, q, r);
                }
            }
        }
        for (int n : EDGES) {
            due("feed", x.feed(n, n), y.feed(n, n));
            due("text", x.text(n), y.text(n));
        }
    }

    private void ofThree(int p, int q, int r) {
        String by = " " + p + " " + q + " " + r;
        due("means" + by, x.means(p, q, r), y.means(p, q, r));
        due("lawful" + by, x.lawful(p, q, r), y.lawful(p, q, r));
        due("barred" + by, x.barred(p, q, r), y.barred(p, q, r));
        due("let" + by, x.let(p, q, r), y.let(p, q, r));
        due("least" + by, x.least(p, q, r), y.least(p, q, r));
        due("inAll" + by, x.inAll(p, q, r), y.inAll(p, q, r));
        due("cost" + by, x.cost(p, q, r), y.cost(p, q, r));
        due("apart" + by, x.apart(p, q, r), y.apart(p, q, r));
        due("act" + by, x.act(p, q, r), y.act(p, q, r));
        due("item" + by, x.item(p, q, r), y.item(p, q, r));
        due("item" + by, x.item(p, q, (long) r << 20), y.item(p, q, (long) r << 20));
        for (int s : EDGES) {
            due("good" + by + " " + s, x.good(p, q, r, s), y.good(p, q, r, s));
            due("next" + by + " " + s, x.next(p, q, r, s), y.next(p, q, r, s));
            due("dear" + by + " " + s, x.dear(p, q, r, s), y.dear(p, q, r, s));
        }
    }

    private void ofFive() {
        int[] few = {Integer.MIN_VALUE, -1, 0, 1, 2, 6, 7, Integer.MAX_VALUE};
        for (int p : few) {
            for (int q : few) {
                for (int r : few) {
                    for (int s : few) {
                        for (int t : few) {
                            String by = " " + p + " " + q + " " + r + " " + s + " " + t;
                            due("table" + by, x.table(p, q, r, s, t), y.table(p, q, r, s, t));
                            due("shift" + by, x.shift(p, q, r, s, t), y.shift(p, q, r, s, t));
                        }
                    }
                }
            }
        }
        for (int p : EDGES) {
            for (int q : EDGES) {
                for (int r : EDGES) {
                    due("tape", x.tape(p, q, r), y.tape(p, q, r));
                    due("item", x.item(p, q, r), y.item(p, q, r));
                }
            }
        }
    }
}
