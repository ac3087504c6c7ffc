/** Promises 21 and 25 to 29: table, count, tape, item, read, shift. */
public final class TapesTest {
    private static final int MAX = Integer.MAX_VALUE, MIN = Integer.MIN_VALUE;

    public static void main(String[] args) {
        tables();
        tablesThatEndEarly();
        counts();
        tapes();
        items();
        shifts();
        Check.end();
    }

    private static PencilStrikes withTable() {
        PencilStrikes x = new PencilStrikes();
        Check.bargain(x, "amw1,w2f3");
        Check.law(x, "most 0");
        Check.law(x, "sense");
        Check.law(x, "bar v=1");
        return x;
    }

    private static void tables() {
        PencilStrikes x = withTable();
        int[] all = {0, 12, 24, 32, 44, 56};
        x.tape(2, 1, 8);
        for (int i = 0; i < all.length; i++) {
            Check.due("told " + i, x.table(2, 1, 0, 0, 0), i == 0 ? 1 : i);
            x.item(2, 1 + i, all[i]);
        }
        Check.due("all told", x.table(2, 1, 0, 0, 0), 6);
        Check.due("a 0 ahead of them", x.table(2, 0, 0, 0, 0), 1);
        Check.due("by sense", x.table(2, 1, 0, 0, 1), 3);
        Check.due("NUMBERS", x.table(2, 1, 4, 0, 0), 1);
        Check.due("none is GOOD", x.table(2, 1, 0, 0, 2), 0);
        x.item(2, 3, 25);
        Check.due("the third is wrong", x.table(2, 1, 0, 0, 0), 2);
        Check.due("the third is wrong by sense", x.table(2, 1, 0, 0, 1), 2);
        x.item(2, 3, 24 + 65536);
        Check.due("shorts hold 16 bits", x.table(2, 1, 0, 0, 0), 6);
        x.item(2, 1, -1);
        Check.due("the first is wrong", x.table(2, 1, 0, 0, 0), 0);
    }

    private static void tablesThatEndEarly() {
        PencilStrikes x = withTable();
        Check.due("nothing there", x.table(0, 0, 0, 0, 0), 1000);
        Check.due("nothing there, none GOOD", x.table(0, 0, 0, 0, 2), 0);
        x.tape(0, 1, 3);
        x.item(0, 2, 12);
        Check.due("two told, the third beyond", x.table(0, 1, 0, 0, 0), 1002);
        Check.due("one told", x.table(0, 0, 0, 0, 0), 1);
        Check.due("the first beyond", x.table(0, 3, 0, 0, 0), 1000);
        Check.due("the first beyond", x.table(0, MAX, 0, 0, 0), 1000);
        Check.due("below 0", x.table(0, -1, 0, 0, 0), 1000);
        Check.due("below 0", x.table(0, MIN, 0, 0, 0), 1000);
        Check.due("below 0, none GOOD", x.table(0, -1, 0, 0, 2), 0);
        x.tape(0, 1, 0);
        Check.due("a row of none", x.table(0, 0, 0, 0, 0), 1000);
        for (int sort : new int[] {0, 2, 3, 4}) {
            x.tape(1, sort, 9);
            Check.due("CAST", x.table(1, 0, 0, 0, 0), -12);
            Check.due("CAST, none GOOD", x.table(1, -1, 0, 0, 2), -12);
        }
        int[][] none = {{6, 0, 0, 0}, {-1, 0, 0, 0}, {1, 7, 0, 0}, {1, -1, 0, 0}, {1, 0, 1, 0}, {1, 0, -1, 0},
            {1, 0, 0, 3}, {1, 0, 0, -1}};
        for (int[] n : none) {
            Check.due("NONE", x.table(n[0], 0, n[1], n[2], n[3]), -1);
        }
    }

    private static void counts() {
        PencilStrikes x = withTable();
        x.feed(0, 4);
        x.act(0, 2, 0);
        Check.due("bargains", x.count(0), 1);
        Check.due("laws", x.count(1), 3);
        Check.due("bytes", x.count(2), 4);
        Check.due("bodies", x.count(3), 3);
        for (int what : new int[] {-1, 4, MAX, MIN}) {
            Check.due("count(" + what + ")", x.count(what), -2);
        }
    }

    private static void tapes() {
        PencilStrikes x = new PencilStrikes();
        for (int tape : new int[] {-1, 6, MAX, MIN}) {
            Check.due("NONE", x.tape(tape, 0, 1), -1);
            Check.due("NONE ahead of BAD", x.tape(tape, 9, 99), -1);
        }
        for (int tape = 0; tape < 6; tape++) {
            Check.due("nothing at first", x.item(tape, 0, 1), -11);
            for (int sort = 0; sort < 5; sort++) {
                Check.due("a row of 60", x.tape(tape, sort, 60), 1);
                Check.due("0 at first", x.read(tape, 59), 0);
                Check.due("no place 60", x.read(tape, 60), PencilStrikes.NO);
                x.item(tape, 59, 1);
                Check.due("61", x.tape(tape, sort, 61), -2);
                Check.due("-1", x.tape(tape, sort, -1), -14);
                Check.due("min", x.tape(tape, sort, MIN), -14);
                Check.due("nothing changed", x.read(tape, 59), 1);
                Check.due("again 60", x.tape(tape, sort, 60), 1);
                Check.due("all 0 again", x.read(tape, 59), 0);
                Check.due("a row of 0", x.tape(tape, sort, 0), 1);
                Check.due("no place 0", x.item(tape, 0, 1), -13);
            }
            Check.due("no sort 5", x.tape(tape, 5, 1), -2);
            Check.due("no sort -2", x.tape(tape, -2, 1), -2);
            Check.due("BAD ahead of SIZE", x.tape(tape, 5, -1), -2);
            for (int n : new int[] {0, -1, 61, MAX, MIN}) {
                Check.due("nothing", x.tape(tape, -1, n), 1);
                Check.due("NOTHING", x.item(tape, 0, 1), -11);
                Check.due("NO", x.read(tape, 0), PencilStrikes.NO);
            }
        }
    }

    private static void items() {
        PencilStrikes x = new PencilStrikes();
        long[] values = {0, 1, -1, 127, 128, 255, 256, 32767, 32768, 65536, 2147483648L, 1L << 32, Long.MAX_VALUE,
            Long.MIN_VALUE};
        for (int sort = 0; sort < 5; sort++) {
            x.tape(3, sort, 2);
            for (long v : values) {
                Check.due("item", x.item(3, 1, v), 1);
                long want = sort == 0 ? (byte) v : sort == 1 ? (short) v : sort == 2 ? (int) v : v;
                Check.due("read of sort " + sort, x.read(3, 1), sort == 4 ? (v != 0 ? 1 : 0) : want);
                Check.due("its neighbour", x.read(3, 0), 0);
            }
            for (int i : new int[] {-1, 2, 60, MAX, MIN}) {
                Check.due("PLACE", x.item(3, i, 1), -13);
                Check.due("NO", x.read(3, i), PencilStrikes.NO);
            }
        }
        for (int tape : new int[] {-1, 6, MAX, MIN}) {
            Check.due("NONE", x.item(tape, 0, 1), -1);
            Check.due("NO", x.read(tape, 0), PencilStrikes.NO);
        }
        Check.due("NOTHING ahead of PLACE", x.item(0, -1, 1), -11);
    }

    private static void shifts() {
        PencilStrikes x = new PencilStrikes();
        x.tape(0, 2, 5);
        x.tape(1, 2, 3);
        x.tape(2, 3, 3);
        for (int i = 0; i < 5; i++) {
            x.item(0, i, 10 + i);
        }
        Check.due("to another", x.shift(0, 2, 1, 0, 3), 3);
        rowIs(x, 1, 12, 13, 14);
        rowIs(x, 0, 10, 11, 12, 13, 14);
        Check.due("onto itself, upwards", x.shift(0, 0, 0, 1, 4), 4);
        rowIs(x, 0, 10, 10, 11, 12, 13);
        Check.due("onto itself, downwards", x.shift(0, 1, 0, 0, 4), 4);
        rowIs(x, 0, 10, 11, 12, 13, 13);
        Check.due("none at the ends", x.shift(0, 5, 1, 3, 0), 0);
        Check.due("beyond the first's end", x.shift(0, 6, 1, 0, 0), -13);
        Check.due("beyond the other's end", x.shift(0, 0, 1, 4, 0), -13);
        Check.due("beyond the first's end", x.shift(0, 3, 1, 0, 3), -13);
        Check.due("beyond the other's end", x.shift(0, 0, 1, 1, 3), -13);
        Check.due("n below 0", x.shift(0, 1, 1, 1, -1), -13);
        Check.due("i below 0", x.shift(0, -1, 1, 0, 1), -13);
        Check.due("j below 0", x.shift(0, 0, 1, -1, 1), -13);
        for (int far : new int[] {MAX, MIN}) {
            Check.due("far n", x.shift(0, 1, 1, 1, far), -13);
            Check.due("far i", x.shift(0, far, 1, 1, 1), -13);
            Check.due("far j", x.shift(0, 1, 1, far, 1), -13);
        }
        Check.due("CAST", x.shift(0, 0, 2, 0, 1), -12);
        Check.due("CAST ahead of PLACE", x.shift(0, -1, 2, 0, 1), -12);
        Check.due("NOTHING from", x.shift(3, 0, 0, 0, 1), -11);
        Check.due("NOTHING to", x.shift(0, -1, 3, 0, 1), -11);
        Check.due("NONE from", x.shift(6, 0, 0, 0, 1), -1);
        Check.due("NONE to, ahead of NOTHING", x.shift(3, 0, -1, 0, 1), -1);
        rowIs(x, 1, 12, 13, 14);
        rowIs(x, 0, 10, 11, 12, 13, 13);
        rowIs(x, 2, 0, 0, 0);
    }

    private static void rowIs(PencilStrikes x, int tape, long... want) {
        for (int i = 0; i < want.length; i++) {
            Check.due("item " + i + " of tape " + tape, x.read(tape, i), want[i]);
        }
        Check.due("its end", x.read(tape, want.length), PencilStrikes.NO);
    }
}
