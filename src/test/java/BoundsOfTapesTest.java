/** Promises 21 and 25 to 29, and what section 5 of the document says: each sentence at its bounds. */
public final class BoundsOfTapesTest {
    private static final int MAX = Integer.MAX_VALUE, MIN = Integer.MIN_VALUE;
    private static final int NOTHING = -11, CAST = -12, PLACE = -13, SIZE = -14;
    private static final long NO = PencilStrikes.NO;
    private static final int BYTES = 0, SHORTS = 1, INTS = 2, LONGS = 3, BOOLEANS = 4;
    private static final int[] NO_TAPES = {-1, 6, 7, MAX, MIN};

    public static void main(String[] args) {
        judgedAhead();
        judgedBeyondTheRow();
        judgedBelowZero();
        judgedNothing();
        judgedNoneGood();
        tableRefused();
        counts();
        tapesAtFirst();
        tapeOfSizes();
        tapeIsAllZero();
        tapeHoldsNothing();
        tapeRefused();
        itemsLowestBits();
        itemsBooleans();
        itemRefused();
        readNo();
        shiftAsTheyWere();
        shiftPlaces();
        shiftRefused();
        Check.end();
    }

    /** Six GOOD ones by LAW 0, none by LAW 1, one by LAW 2. */
    private static final int[] SIX = {0, 12, 24, 32, 44, 56};

    private static PencilStrikes withTable() {
        PencilStrikes x = Check.with("amw1,w2f3", "most 0");
        Check.due("law 1", Check.law(x, "bar w=0"), 1);
        Check.due("law 2", Check.law(x, "bar t=2|f=10"), 2);
        Check.due("six", x.good(0, 0, 0, -1), 6);
        Check.due("none", x.good(0, 0, 1, -1), 0);
        Check.due("one", x.good(0, 0, 2, -1), 1);
        return x;
    }

    private static void lay(PencilStrikes x, int tape, int from, int... items) {
        for (int i = 0; i < items.length; i++) {
            Check.due("item " + (from + i), x.item(tape, from + i, items[i]), 1);
        }
    }

    private static void judgedAhead() {
        Check.sentence("Terms 5", "JUDGED: how many are the GOOD ones in their order ahead of the first that is not; .. if all "
            + "GOOD ones are told, how many these are.");
        for (int wrong = 0; wrong < 6; wrong++) {
            for (int from : new int[] {0, 1, 54}) {
                PencilStrikes x = withTable();
                x.tape(3, SHORTS, 60);
                lay(x, 3, from, SIX);
                Check.due("all are told", x.table(3, from, 0, 0, 0), 6);
                for (int other : new int[] {SIX[wrong] + 1, SIX[wrong] - 1, -1, 32767, -32768, SIX[(wrong + 1) % 6]}) {
                    x.item(3, from + wrong, other);
                    Check.due(other + " for the " + wrong + "-th", x.table(3, from, 0, 0, 0), wrong);
                }
                x.item(3, from + wrong, 65536 + SIX[wrong]);
                Check.due("an item is a short", x.table(3, from, 0, 0, 0), 6);
            }
        }
        PencilStrikes x = withTable();
        x.tape(0, SHORTS, 8);
        lay(x, 0, 0, 0, 24, 12, 12, 24, 32, 44, 56);
        Check.due("not in their order", x.table(0, 0, 0, 0, 0), 1);
        Check.due("from another place", x.table(0, 3, 0, 0, 0), 0);
        lay(x, 0, 2, SIX);
        Check.due("what stands ahead does not matter", x.table(0, 2, 0, 0, 0), 6);
        x.tape(0, SHORTS, 60);
        lay(x, 0, 0, SIX);
        lay(x, 0, 6, 999, 998);
        Check.due("what stands behind does not matter", x.table(0, 0, 0, 0, 0), 6);
        Check.due("by the KIND asked for", x.table(0, 0, 4, 0, 0), 1);
        Check.due("by the LAW asked for", x.table(0, 2, 0, 0, 2), 1);
    }

    private static void judgedBeyondTheRow() {
        Check.sentence("Terms 5", "1000 more, if a GOOD one more would have to stand beyond the row");
        for (int size = 0; size <= 7; size++) {
            PencilStrikes x = withTable();
            x.tape(5, SHORTS, size);
            for (int i = 0; i < Math.min(size, 6); i++) {
                x.item(5, i, SIX[i]);
            }
            Check.due("a row of " + size, x.table(5, 0, 0, 0, 0), size < 6 ? 1000 + size : 6);
        }
        PencilStrikes x = withTable();
        x.tape(5, SHORTS, 60);
        lay(x, 5, 55, 0, 12, 24, 32, 44);
        Check.due("five of six at the end of 60", x.table(5, 55, 0, 0, 0), 1005);
        x.item(5, 59, 45);
        Check.due("the last place is wrong: that is first", x.table(5, 55, 0, 0, 0), 4);
        x.item(5, 59, 0);
        Check.due("the first at the last place", x.table(5, 59, 0, 0, 0), 1001);
        for (int i : new int[] {60, 61, 100, MAX - 1, MAX}) {
            Check.due("from " + i, x.table(5, i, 0, 0, 0), 1000);
        }
        Check.due("one GOOD, at the last place", lastPlace(24), 1);
        Check.due("one GOOD, not at the last place", lastPlace(25), 0);
    }

    private static int lastPlace(int item) {
        PencilStrikes x = withTable();
        int only = x.good(0, 0, 2, 0);
        Check.due("the only one", only, 24);
        x.tape(2, SHORTS, 60);
        x.item(2, 59, item);
        return x.table(2, 59, 0, 0, 2);
    }

    private static void judgedBelowZero() {
        Check.sentence("Terms 5", "1000 more, if .. (or at a place below 0 ..)");
        PencilStrikes x = withTable();
        x.tape(1, SHORTS, 60);
        lay(x, 1, 0, SIX);
        for (int i : new int[] {-1, -2, -6, -60, MIN + 1, MIN}) {
            Check.due("from " + i, x.table(1, i, 0, 0, 0), 1000);
        }
        Check.due("from 0", x.table(1, 0, 0, 0, 0), 6);
    }

    private static void judgedNothing() {
        Check.sentence("Terms 5", "1000 more, if .. (.. or the TAPE holds nothing)");
        PencilStrikes x = withTable();
        for (int tape = 0; tape < 6; tape++) {
            for (int i : new int[] {0, 1, -1, 60, MAX, MIN}) {
                Check.due("TAPE " + tape + " from " + i, x.table(tape, i, 0, 0, 0), 1000);
            }
        }
        x.tape(0, SHORTS, 9);
        lay(x, 0, 0, SIX);
        x.tape(0, -1, 9);
        Check.due("nothing any more", x.table(0, 0, 0, 0, 0), 1000);
        x.tape(0, SHORTS, 0);
        Check.due("a row of 0 shorts", x.table(0, 0, 0, 0, 0), 1000);
    }

    private static void judgedNoneGood() {
        Check.sentence("Terms 5", "if all GOOD ones are told, how many these are: 0, if there are none");
        PencilStrikes x = withTable();
        for (int i : new int[] {0, 59, 60, -1, MAX, MIN}) {
            Check.due("nothing there, from " + i, x.table(0, i, 0, 0, 1), 0);
        }
        x.tape(0, SHORTS, 60);
        for (int i : new int[] {0, 59, 60, -1, MAX, MIN}) {
            Check.due("a row of shorts, from " + i, x.table(0, i, 0, 0, 1), 0);
        }
        x.tape(0, INTS, 60);
        Check.due("CAST, though none is GOOD", x.table(0, 0, 0, 0, 1), CAST);
    }

    private static void tableRefused() {
        Check.sentence("Promise 21", "NONE: tape, kind, bargain, law; CAST: it is no row of shorts.");
        PencilStrikes x = withTable();
        for (int sort : new int[] {BYTES, INTS, LONGS, BOOLEANS}) {
            for (int size : new int[] {0, 6, 60}) {
                x.tape(1, sort, size);
                for (int i : new int[] {0, -1, 60, MAX, MIN}) {
                    Check.due("sort " + sort + " of " + size, x.table(1, i, 0, 0, 0), CAST);
                }
            }
        }
        x.tape(1, LONGS, 3);
        x.tape(2, SHORTS, 3);
        for (int tape : new int[] {0, 1, 2}) {
            for (int wrong : new int[] {-1, 7, MAX, MIN}) {
                Check.due("kind " + wrong, x.table(tape, 0, wrong, 0, 0), -1);
                Check.due("bargain " + wrong, x.table(tape, 0, 0, wrong, 0), -1);
                Check.due("law " + wrong, x.table(tape, -1, 0, 0, wrong), -1);
                Check.due("tape " + wrong, x.table(wrong, 0, 0, 0, 0), -1);
            }
            Check.due("tape 6", x.table(6, 0, 0, 0, 0), -1);
            Check.due("bargain 1", x.table(tape, 0, 0, 1, 0), -1);
            Check.due("law 3", x.table(tape, 0, 0, 0, 3), -1);
        }
        PencilStrikes y = Check.with("amw1", "give");
        y.tape(0, SHORTS, 3);
        Check.due("KIND 6 is the last", y.table(0, 0, 6, 0, 0), 0);
        Check.due("KIND 7 is none", y.table(0, 0, 7, 0, 0), -1);
    }

    private static void counts() {
        Check.sentence("Promise 25", "How many: 0 BARGAINS, 1 LAWS, 2 bytes of THE TEXT, 3 bodies .. BAD.");
        PencilStrikes x = new PencilStrikes();
        for (int what : new int[] {-1, 4, 5, MAX, MIN}) {
            Check.due("count(" + what + ")", x.count(what), -2);
        }
        for (int i = 0; i < 8; i++) {
            Check.due("bargains", x.count(0), Math.min(i, 6));
            Check.due("bytes", x.count(2), i < 7 ? 0 : 1);
            Check.bargain(x, "a");
        }
        Check.due("two that had no place", x.count(2), 2);
        Check.due("no LAW", x.text(1), -10);
        for (int i = 0; i < 7; i++) {
            Check.due("laws", x.count(1), Math.min(i, 5));
            Check.law(x, "give");
        }
        Check.due("two that had no place", x.count(2), 8);
        Check.due("bargains still", x.count(0), 6);
        while (x.count(2) < 100) {
            x.feed(0, 4);
        }
        Check.due("100", x.count(2), 100);
        Check.due("bodies", x.act(0, 2, 1) - x.act(0, 2, 1), 0);
        Check.due("bodies", x.count(3), 3);
    }

    private static void tapesAtFirst() {
        Check.sentence("Terms 5", "TAPES 0 .. 5 hold nothing (at first)");
        PencilStrikes x = new PencilStrikes();
        for (int tape = 0; tape < 6; tape++) {
            Check.due("item of " + tape, x.item(tape, 0, 0), NOTHING);
            Check.due("read of " + tape, x.read(tape, 0), NO);
            Check.due("shift of " + tape, x.shift(tape, 0, tape, 0, 0), NOTHING);
        }
        for (int tape : NO_TAPES) {
            Check.due("tape(" + tape + ")", x.tape(tape, 0, 1), -1);
            Check.due("item(" + tape + ")", x.item(tape, 0, 0), -1);
            Check.due("read(" + tape + ")", x.read(tape, 0), NO);
        }
    }

    private static void tapeOfSizes() {
        Check.sentence("Promise 26", "A TAPE becomes a row of n (0 .. 60) of a sort .. : 1.");
        for (int sort = 0; sort <= 4; sort++) {
            PencilStrikes x = new PencilStrikes();
            for (int n : new int[] {0, 1, 2, 59, 60, 30, 0}) {
                Check.due("sort " + sort + " of " + n, x.tape(sort, sort, n), 1);
                Check.due("its last", x.read(sort, n - 1), n == 0 ? NO : 0);
                Check.due("its end", x.read(sort, n), NO);
                Check.due("its last becomes", x.item(sort, n - 1, 1), n == 0 ? PLACE : 1);
                Check.due("its end does not", x.item(sort, n, 1), PLACE);
            }
            Check.due("the others hold nothing", x.item((sort + 1) % 6, 0, 1), NOTHING);
        }
    }

    private static void tapeIsAllZero() {
        Check.sentence("Promise 26", "a row of n of a sort, all 0");
        for (int sort = 0; sort <= 4; sort++) {
            PencilStrikes x = new PencilStrikes();
            x.tape(4, sort, 60);
            for (int i = 0; i < 60; i++) {
                x.item(4, i, 1);
            }
            x.tape(4, (sort + 1) % 5, 1);
            Check.due("a shorter row of another sort", x.read(4, 0), 0);
            x.tape(4, sort, 60);
            for (int i = 0; i < 60; i++) {
                Check.due("item " + i, x.read(4, i), 0);
            }
        }
    }

    private static void tapeHoldsNothing() {
        Check.sentence("Promise 26", "or holds nothing (sort -1: n does not matter): 1.");
        for (int n : new int[] {0, 1, 60, 61, -1, -2, MAX, MIN}) {
            PencilStrikes x = new PencilStrikes();
            Check.due("of nothing", x.tape(0, -1, n), 1);
            x.tape(0, INTS, 5);
            Check.due("item", x.item(0, 4, 7), 1);
            Check.due("nothing, n " + n, x.tape(0, -1, n), 1);
            Check.due("item", x.item(0, 4, 7), NOTHING);
            Check.due("read", x.read(0, 0), NO);
            x.tape(0, INTS, 5);
            Check.due("what was there is gone", x.read(0, 4), 0);
        }
    }

    private static void tapeRefused() {
        Check.sentence("Promise 26", "NONE: tape; BAD: sort, n above 60; SIZE.");
        PencilStrikes x = new PencilStrikes();
        x.tape(2, SHORTS, 4);
        x.item(2, 3, 9);
        for (int tape : NO_TAPES) {
            for (int n : new int[] {0, 61, -1, MIN}) {
                Check.due("NONE is named ahead of BAD, SIZE", x.tape(tape, 0, n), -1);
                Check.due("NONE is named ahead of BAD, SIZE", x.tape(tape, 5, n), -1);
                Check.due("NONE, also to hold nothing", x.tape(tape, -1, n), -1);
            }
        }
        for (int sort : new int[] {-2, 5, 6, MAX, MIN}) {
            for (int n : new int[] {0, 60, 61, -1, MAX, MIN}) {
                Check.due("BAD is named ahead of SIZE: sort " + sort + " of " + n, x.tape(2, sort, n), -2);
            }
        }
        for (int sort = 0; sort <= 4; sort++) {
            for (int n : new int[] {61, 62, MAX}) {
                Check.due("above 60", x.tape(2, sort, n), -2);
            }
            for (int n : new int[] {-1, -2, MIN}) {
                Check.due("below 0", x.tape(2, sort, n), SIZE);
            }
        }
        Check.due("the row is as it was", x.read(2, 3), 9);
        Check.due("the row is as long as it was", x.read(2, 4), NO);
    }

    private static void itemsLowestBits() {
        Check.sentence("Promise 27", "Item i of a TAPE becomes v (its lowest bits, as many as an item has ..): 1.");
        long[] values = {0, 1, -1, 127, 128, 129, -128, -129, 255, 256, 257, 32767, 32768, -32768, -32769, 65535, 65536, MAX,
            MAX + 1L, MIN, MIN - 1L, 4294967295L, 4294967296L, Long.MAX_VALUE, Long.MIN_VALUE, Long.MIN_VALUE + 1};
        PencilStrikes x = new PencilStrikes();
        for (int sort = BYTES; sort <= LONGS; sort++) {
            x.tape(sort, sort, 3);
            int bits = 8 << sort;
            for (long v : values) {
                Check.due("item", x.item(sort, 1, v), 1);
                long lowest = bits == 64 ? v : v & (1L << bits) - 1;
                long want = bits < 64 && lowest >= 1L << bits - 1 ? lowest - (1L << bits) : lowest;
                Check.due(v + " as one of " + bits + " bits", x.read(sort, 1), want);
            }
            Check.due("the one ahead", x.read(sort, 0), 0);
            Check.due("the one behind", x.read(sort, 2), 0);
        }
    }

    private static void itemsBooleans() {
        Check.sentence("Promise 27", "booleans: whether v is not 0 (items 0, 1)");
        PencilStrikes x = new PencilStrikes();
        x.tape(0, BOOLEANS, 2);
        for (long v : new long[] {1, -1, 2, 256, 65536, 1L << 32, 1L << 63, Long.MAX_VALUE, 10, 0}) {
            x.item(0, 1, v);
            Check.due("of " + v, x.read(0, 1), v == 0 ? 0 : 1);
            Check.due("the other", x.read(0, 0), 0);
        }
    }

    private static void itemRefused() {
        Check.sentence("Promise 27", "NONE; NOTHING; PLACE.");
        PencilStrikes x = new PencilStrikes();
        x.tape(1, LONGS, 0);
        x.tape(2, LONGS, 1);
        x.tape(3, LONGS, 60);
        for (int i : new int[] {-1, -2, 0, 1, 59, 60, 61, MAX, MIN}) {
            Check.due("NOTHING is named ahead of PLACE: " + i, x.item(0, i, 5), NOTHING);
            Check.due("a row of 0: " + i, x.item(1, i, 5), PLACE);
            Check.due("a row of 1: " + i, x.item(2, i, 5), i == 0 ? 1 : PLACE);
            Check.due("a row of 60: " + i, x.item(3, i, 5), i >= 0 && i < 60 ? 1 : PLACE);
            for (int tape : NO_TAPES) {
                Check.due("NONE is named ahead of NOTHING, PLACE: " + i, x.item(tape, i, 5), -1);
            }
        }
        for (int i = 0; i < 60; i++) {
            Check.due("item " + i, x.read(3, i), i < 2 || i == 59 ? 5 : 0);
        }
    }

    private static void readNo() {
        Check.sentence("Promise 28", "Item i of a TAPE. NO: no such TAPE, nothing there, no such place.");
        PencilStrikes x = new PencilStrikes();
        x.tape(1, LONGS, 0);
        x.tape(2, LONGS, 1);
        x.tape(3, LONGS, 60);
        x.item(2, 0, NO);
        x.item(3, 0, 3);
        x.item(3, 59, 4);
        Check.due("an item may be as low as NO", x.read(2, 0), NO);
        Check.due("the first", x.read(3, 0), 3);
        Check.due("the last", x.read(3, 59), 4);
        for (int i : new int[] {-1, -2, 60, 61, MAX, MIN}) {
            for (int tape = -1; tape <= 6; tape++) {
                Check.due("read(" + tape + ", " + i + ")", x.read(tape, i), NO);
            }
        }
        for (int tape : new int[] {-1, 0, 1, 4, 5, 6, MAX, MIN}) {
            Check.due("read(" + tape + ", 0)", x.read(tape, 0), NO);
        }
    }

    private static PencilStrikes withRows(int sort, int first, int second) {
        PencilStrikes x = new PencilStrikes();
        x.tape(0, sort, first);
        x.tape(1, sort, second);
        for (int i = 0; i < first; i++) {
            x.item(0, i, 10 + i);
        }
        for (int i = 0; i < second; i++) {
            x.item(1, i, 30 + i);
        }
        return x;
    }

    private static void rowIs(String told, PencilStrikes x, int tape, long... want) {
        for (int i = 0; i < want.length; i++) {
            Check.due(told + ": item " + i + " of TAPE " + tape, x.read(tape, i), want[i]);
        }
        Check.due(told + ": its end", x.read(tape, want.length), NO);
    }

    private static void shiftAsTheyWere() {
        Check.sentence("Promise 29", "n items of a TAPE from i on come to another one (or the same) from j on, as they all were "
            + "before: n.");
        for (int sort = BYTES; sort <= LONGS; sort++) {
            PencilStrikes x = withRows(sort, 5, 4);
            Check.due("to another", x.shift(0, 1, 1, 0, 3), 3);
            rowIs("to another", x, 1, 11, 12, 13, 33);
            rowIs("the first stays", x, 0, 10, 11, 12, 13, 14);
            Check.due("up", x.shift(0, 0, 0, 1, 4), 4);
            rowIs("up", x, 0, 10, 10, 11, 12, 13);
            Check.due("up by two", x.shift(0, 0, 0, 2, 3), 3);
            rowIs("up by two", x, 0, 10, 10, 10, 10, 11);
            PencilStrikes y = withRows(sort, 5, 1);
            Check.due("down", y.shift(0, 1, 0, 0, 4), 4);
            rowIs("down", y, 0, 11, 12, 13, 14, 14);
            Check.due("to where it stands", y.shift(0, 0, 0, 0, 5), 5);
            rowIs("to where it stands", y, 0, 11, 12, 13, 14, 14);
            Check.due("none", y.shift(0, 2, 0, 3, 0), 0);
            rowIs("none", y, 0, 11, 12, 13, 14, 14);
        }
        PencilStrikes x = withRows(BOOLEANS, 60, 60);
        x.item(0, 1, 0);
        Check.due("all 60", x.shift(0, 0, 1, 0, 60), 60);
        Check.due("a boolean that is not", x.read(1, 1), 0);
        Check.due("a boolean that is", x.read(1, 59), 1);
    }

    private static void shiftPlaces() {
        Check.sentence("Promise 29", "PLACE: n, i or j is below 0, or beyond either's end.");
        for (int i = -1; i <= 5; i++) {
            for (int j = -1; j <= 4; j++) {
                for (int n = -1; n <= 5; n++) {
                    PencilStrikes x = withRows(INTS, 4, 3);
                    boolean fits = i >= 0 && j >= 0 && n >= 0 && i + n <= 4 && j + n <= 3;
                    Check.due("shift(0, " + i + ", 1, " + j + ", " + n + ")", x.shift(0, i, 1, j, n), fits ? n : PLACE);
                    for (int k = 0; k < 3; k++) {
                        boolean came = fits && k >= j && k < j + n;
                        Check.due("item " + k, x.read(1, k), came ? 10 + i + k - j : 30 + k);
                    }
                }
            }
        }
        PencilStrikes x = withRows(INTS, 60, 60);
        for (int far : new int[] {61, 1000, MAX - 59, MAX - 1, MAX, MIN, MIN + 1}) {
            Check.due("i " + far, x.shift(0, far, 1, 0, 0), PLACE);
            Check.due("i " + far, x.shift(0, far, 1, 0, 60), PLACE);
            Check.due("j " + far, x.shift(0, 0, 1, far, 0), PLACE);
            Check.due("j " + far, x.shift(0, 0, 1, far, 60), PLACE);
            Check.due("n " + far, x.shift(0, 1, 1, 1, far), PLACE);
            Check.due("all " + far, x.shift(0, far, 1, far, far), PLACE);
            Check.due("two " + far, x.shift(0, far, 0, 0, far), PLACE);
        }
        Check.due("none at both ends", x.shift(0, 60, 1, 60, 0), 0);
        PencilStrikes empty = withRows(SHORTS, 0, 0);
        Check.due("none of none", empty.shift(0, 0, 1, 0, 0), 0);
        Check.due("one of none", empty.shift(0, 0, 1, 0, 1), PLACE);
        Check.due("none behind none", empty.shift(0, 1, 1, 0, 0), PLACE);
    }

    private static void shiftRefused() {
        Check.sentence("Promise 29", "NONE: tapes; NOTHING; CAST: of unlike sorts; PLACE.");
        PencilStrikes x = withRows(INTS, 4, 4);
        x.tape(2, LONGS, 4);
        for (int n : new int[] {0, 1, 5, -1, MAX, MIN}) {
            for (int wrong : NO_TAPES) {
                for (int other : new int[] {0, 2, 3, 6, -1}) {
                    Check.due("NONE is named ahead of all others", x.shift(wrong, n, other, n, n), -1);
                    Check.due("NONE is named ahead of all others", x.shift(other, n, wrong, n, n), -1);
                }
            }
            for (int other : new int[] {0, 2, 3}) {
                Check.due("NOTHING is named ahead of CAST, PLACE", x.shift(3, n, other, n, n), NOTHING);
                Check.due("NOTHING is named ahead of CAST, PLACE", x.shift(other, n, 3, n, n), NOTHING);
            }
            Check.due("CAST is named ahead of PLACE", x.shift(0, n, 2, n, n), CAST);
            Check.due("CAST is named ahead of PLACE", x.shift(2, n, 0, n, n), CAST);
        }
        rowIs("as it was", x, 0, 10, 11, 12, 13);
        rowIs("as it was", x, 1, 30, 31, 32, 33);
        rowIs("as it was", x, 2, 0, 0, 0, 0);
        for (int sort = 0; sort <= 4; sort++) {
            for (int other = 0; other <= 4; other++) {
                x.tape(4, sort, 2);
                x.tape(5, other, 2);
                Check.due("sorts " + sort + ", " + other, x.shift(4, 0, 5, 0, 2), sort == other ? 2 : CAST);
            }
        }
    }
}
