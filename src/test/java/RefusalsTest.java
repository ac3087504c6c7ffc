/** "What is answered so changes nothing; what is asked changes nothing.": the calls that are refused, and those that ask. */
public final class RefusalsTest {
    private static final int MAX = Integer.MAX_VALUE, MIN = Integer.MIN_VALUE;
    private static final int NOTHING = -11, CAST = -12, PLACE = -13, SIZE = -14;

    private PencilStrikes x;
    private String before;

    public static void main(String[] args) {
        RefusalsTest test = new RefusalsTest();
        test.textsRefused();
        test.tapesRefused();
        test.itemsRefused();
        test.shiftsRefused();
        test.askedOfSets();
        test.askedOfKinds();
        test.askedOfOthers();
        PencilStrikes y = State.filled();
        Check.due("more than asking changes it", y.feed('e', 1), 7);
        Check.due("so it is told", State.of(y).equals(State.of(State.filled())) ? 1 : 0, 0);
        fiveHundredTwelve();
        Check.end();
    }

    private void anew() {
        x = State.filled();
        before = State.of(x);
    }

    /** The object is as it was: all that it tells, and what the bytes of THE TEXT are. */
    private void refused(String call, long got, long want) {
        Check.due(call, got, want);
        unchanged(call);
    }

    private void unchanged(String call) {
        Check.same("the object after " + call, State.of(x), before);
        Check.lay(x, "ense;x");
        Check.due("THE TEXT after " + call, x.text(1), -10 - 11);
        anew();
    }

    private void textsRefused() {
        Check.sentence("Terms 5", "What is answered so changes nothing (feed, text, price, count, word)");
        anew();
        for (int n : new int[] {-1, 5, MAX, MIN}) {
            refused("feed n " + n, x.feed('x', n), -2);
        }
        for (int what : new int[] {-1, 2, MAX, MIN}) {
            refused("text " + what, x.text(what), -1);
        }
        for (int n : new int[] {-1, 100, MAX, MIN}) {
            refused("price of 0: " + n, x.price(0, n), -2);
            refused("price of 9: " + n, x.price(9, n), -2);
        }
        for (int thing : new int[] {-1, 10, MAX, MIN}) {
            refused("price of " + thing, x.price(thing, 1), -1);
        }
        refused("count", x.count(4), -2);
        refused("word", x.word(0, 99), -1);
        refused("taken", x.taken(0, 7), -2);
        refused("trace", x.trace(99), -1);
    }

    private void tapesRefused() {
        Check.sentence("Terms 5", "What is answered so changes nothing (tape)");
        for (int tape = 0; tape < 6; tape++) {
            refused("no sort", x.tape(tape, 5, 3), -2);
            refused("no sort", x.tape(tape, -2, 3), -2);
            refused("above 60", x.tape(tape, 0, 61), -2);
            refused("below 0", x.tape(tape, 1, -1), SIZE);
            refused("below 0", x.tape(tape, 2, MIN), SIZE);
        }
        refused("no TAPE", x.tape(6, -1, 0), -1);
        refused("no TAPE", x.tape(-1, 0, 0), -1);
    }

    private void itemsRefused() {
        Check.sentence("Terms 5", "What is answered so changes nothing (item)");
        for (int tape = 0; tape < 6; tape++) {
            for (int i : new int[] {-1, 3, 60, MAX, MIN}) {
                refused("item " + i + " of " + tape, x.item(tape, i, 1), tape == 5 ? NOTHING : PLACE);
            }
        }
        refused("item of no TAPE", x.item(6, 0, 1), -1);
        refused("item of no TAPE", x.item(-1, 0, 1), -1);
    }

    private void shiftsRefused() {
        Check.sentence("Terms 5", "What is answered so changes nothing (shift): not a part of it is done");
        for (int tape = 0; tape < 5; tape++) {
            refused("to itself, beyond its end", x.shift(tape, 0, tape, 1, 3), PLACE);
            refused("to itself, beyond its end", x.shift(tape, 1, tape, 0, 3), PLACE);
            refused("below 0", x.shift(tape, -1, tape, 0, 2), PLACE);
            refused("below 0", x.shift(tape, 0, tape, -1, 2), PLACE);
            refused("below 0", x.shift(tape, 0, tape, 1, -1), PLACE);
            refused("to another sort", x.shift(tape, 0, (tape + 1) % 5, 1, 2), CAST);
            refused("to nothing", x.shift(tape, 0, 5, 0, 0), NOTHING);
            refused("of nothing", x.shift(5, 0, tape, 0, 0), NOTHING);
            refused("to no TAPE", x.shift(tape, 0, 6, 0, 0), -1);
            refused("of no TAPE", x.shift(-1, 0, tape, 0, 0), -1);
        }
    }

    private void askedOfSets() {
        Check.sentence("Terms 5", "what is asked changes nothing (reads, means, lawful, barred, let, cost, word)");
        for (int b = -1; b <= 2; b++) {
            for (int set : new int[] {0, 1, 24, 0b100, 4095, 4096, -1}) {
                x.reads(b, set);
                x.means(b, set, -1);
                x.means(b, set, 1);
                x.cost(b, set, 0);
                x.cost(b, set, 2);
                for (int law = -1; law <= 2; law++) {
                    x.lawful(b, set, law);
                    x.barred(b, set, law);
                }
                for (int kind = 0; kind <= 7; kind++) {
                    x.let(kind, b, set);
                }
            }
            x.word(b, 1);
            unchanged("what is asked of sets of " + b);
        }
    }

    private void askedOfKinds() {
        Check.sentence("Terms 5", "what is asked changes nothing (good, next, least, inAll, plain, dear, alone, apart, saves)");
        for (int kind = -1; kind <= 7; kind++) {
            for (int b = 0; b <= 2; b++) {
                for (int law = 0; law <= 2; law++) {
                    x.good(kind, b, law, 1);
                    x.next(kind, b, law, 4);
                    x.next(kind, b, law, -2);
                    x.least(kind, b, law);
                    x.inAll(kind, b, law);
                    x.dear(kind, b, law, kind % 3);
                    x.apart(kind, b, law);
                    x.saves(b, law);
                }
                x.plain(b);
                x.alone(kind, b);
            }
            unchanged("what is asked of KIND " + kind);
        }
    }

    private void askedOfOthers() {
        Check.sentence("Terms 5", "what is asked changes nothing (table, trace, taken, count, read)");
        for (int tape = -1; tape <= 6; tape++) {
            for (int i : new int[] {0, 1, -1, 60, MAX}) {
                x.table(tape, i, 0, 0, 0);
                x.table(tape, i, 6, 1, 1);
                x.table(tape, i, 7, 2, 2);
                x.read(tape, i);
                x.trace(i);
                x.taken(tape, i);
                x.count(i);
            }
            unchanged("what is asked of TAPE " + tape);
        }
    }

    /** The object's last call answers as its first did. */
    private static void fiveHundredTwelve() {
        Check.sentence("What it is", "An object is used for at most 512 calls after it has been made");
        PencilStrikes y = new PencilStrikes();
        Check.due("bargain", Check.bargain(y, "amnw1,w2,w3i2f3"), 0);
        Check.due("law", Check.law(y, "give"), 0);
        Check.due("law", Check.law(y, "sense"), 1);
        int calls = 10;
        while (calls < 512) {
            calls++;
            switch (calls % 4) {
                case 0: Check.due("good, call " + calls, y.good(0, 0, 1, -1), 8); break;
                case 1: Check.due("alone, call " + calls, y.alone(0, 0), 7); break;
                case 2: Check.due("act, call " + calls, y.act(0, 0, calls), calls + 1); break;
                default: Check.due("dear, call " + calls, y.dear(0, 0, 0, 2), -5); break;
            }
        }
    }
}
