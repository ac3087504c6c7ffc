/** Promises 11 to 15: good, next, least, inAll, plain. */
public final class StrikesTest {
    public static void main(String[] args) {
        allInTheirOrder();
        underSense();
        byKinds();
        least();
        inAll();
        plain();
        wrongNumbers();
        Check.end();
    }

    private static void goodOnes(PencilStrikes x, int kind, int bargain, int law, int... want) {
        String by = "(" + kind + ", " + bargain + ", " + law;
        Check.due("good" + by + ", -1)", x.good(kind, bargain, law, -1), want.length);
        int before = -1;
        for (int i = 0; i < want.length; i++) {
            Check.due("good" + by + ", " + i + ")", x.good(kind, bargain, law, i), want[i]);
            Check.due("next" + by + ", " + before + ")", x.next(kind, bargain, law, before), want[i]);
            Check.due("next" + by + ", just below)", x.next(kind, bargain, law, want[i] - 1), want[i]);
            before = want[i];
        }
        Check.due("good" + by + ", beyond)", x.good(kind, bargain, law, want.length), -1);
        Check.due("next" + by + ", the last)", x.next(kind, bargain, law, before), -5);
    }

    private static void allInTheirOrder() {
        PencilStrikes x = new PencilStrikes();
        Check.bargain(x, "amnw1f9");
        Check.law(x, "most 8");
        Check.law(x, "most 9");
        Check.law(x, "bar n=0");
        Check.law(x, "bar v=1");
        // n, f9 and both may be struck so that it reads
        goodOnes(x, 0, 0, 0, 0b00100, 0b10100);
        goodOnes(x, 0, 0, 1, 0, 0b00100, 0b10100);
        goodOnes(x, 1, 0, 2, 0, 0b10000);
        goodOnes(x, 0, 0, 3);
        goodOnes(x, 4, 0, 0);
        goodOnes(x, 4, 0, 1, 0);
        goodOnes(x, 4, 0, 2, 0, 0b10000);
        goodOnes(x, 2, 0, 1, 0);
        goodOnes(x, 3, 0, 1, 0);
        goodOnes(x, 5, 0, 1, 0);
        goodOnes(x, 6, 0, 1, 0);
    }

    private static void underSense() {
        PencilStrikes x = new PencilStrikes();
        Check.bargain(x, "amw1,w2f3");
        Check.law(x, "most 0");
        Check.law(x, "sense");
        goodOnes(x, 0, 0, 0, 0, 0b001100, 0b011000, 0b100000, 0b101100, 0b111000);
        goodOnes(x, 0, 0, 1, 0, 0b001100, 0b011000);
        goodOnes(x, 6, 0, 0, 0, 0b001100, 0b011000);
        goodOnes(x, 4, 0, 0, 0, 0b100000);
        goodOnes(x, 4, 0, 1, 0);
        Check.bargain(x, "abmw1");
        goodOnes(x, 0, 1, 0, 1, 2);
        goodOnes(x, 0, 1, 1);
        goodOnes(x, 6, 1, 0);
        goodOnes(x, 5, 1, 0, 1);
    }

    private static void byKinds() {
        PencilStrikes x = new PencilStrikes();
        Check.bargain(x, "amw1;bmp2;amp3");
        Check.law(x, "most 0");
        Check.law(x, "give");
        // the middle CLAUSE falls with the END on either side of it
        goodOnes(x, 3, 0, 0, 0, 0b1111, 0b1111000, 0b11110000, 0b11111111, 0b11110000000, 0b11110001111,
            0b11111111000);
        goodOnes(x, 3, 0, 1, 0, 0b1111, 0b11110000000);
        goodOnes(x, 5, 0, 0, 0, 0b1111, 0b11111111);
        goodOnes(x, 5, 0, 1, 0, 0b1111);
        goodOnes(x, 2, 0, 0, 0);
    }

    private static void least() {
        PencilStrikes x = new PencilStrikes();
        Check.bargain(x, "amw1&w2;bmw1");
        Check.law(x, "bar t=1");
        Check.law(x, "bar t=2");
        Check.law(x, "bar t>0");
        Check.law(x, "give");
        Check.due("least of fewest words", x.least(0, 0, 0), bits(2, 3, 5, 6, 7, 8));
        Check.due("of several the least", x.least(0, 0, 1), bits(3, 4));
        Check.due("none", x.least(0, 0, 2), -5);
        Check.due("nothing", x.least(0, 0, 3), 0);
        Check.bargain(x, "amnw1,w2&w3");
        Check.law(x, "most 10");
        Check.due("n alone", x.least(1, 1, 4), bits(2));
        Check.due("two items", x.least(2, 1, 4), bits(3, 4, 5, 6));
        Check.due("fewer words ahead of less", x.least(6, 1, 4), bits(3, 4, 5, 6));
        PencilStrikes y = new PencilStrikes();
        Check.bargain(y, "amw1,w2f3");
        Check.law(y, "bar t=1&f=3");
        Check.due("the least set has two words", y.good(0, 0, 0, 0), bits(2, 3));
        Check.due("a greater one has one", y.least(0, 0, 0), bits(5));
    }

    private static void inAll() {
        PencilStrikes x = new PencilStrikes();
        Check.bargain(x, "amnw1,w2");
        Check.law(x, "most 0");
        Check.law(x, "most 99");
        Check.law(x, "bar t=1");
        Check.law(x, "bar v=1");
        Check.due("n", x.inAll(0, 0, 0), bits(2));
        Check.due("none of them", x.inAll(0, 0, 1), 0);
        Check.due("w1,", x.inAll(0, 0, 2), bits(3, 4));
        Check.due("none is GOOD", x.inAll(0, 0, 3), 0b111111);
        Check.due("none is GOOD by this KIND", x.inAll(4, 0, 2), 0b111111);
    }

    private static void plain() {
        PencilStrikes x = new PencilStrikes();
        for (String text : new String[] {"amw1", "amw1;amw1", "amw1,w1", "amw1i1f1;amp0", "bynw1,w2&w2i9"}) {
            int bargain = Check.bargain(x, text);
            Check.due("plain " + text, x.plain(bargain), 0);
        }
        Check.bargain(x, "abmw1");
        Check.due("the whole does not read", x.plain(5), -3);
        Check.due("NONE", x.plain(6), -1);
        Check.due("NONE", x.plain(-1), -1);
    }

    private static void wrongNumbers() {
        PencilStrikes x = new PencilStrikes();
        Check.bargain(x, "amw1");
        Check.law(x, "most 0");
        int[][] none = {{7, 0, 0}, {-1, 0, 0}, {0, 1, 0}, {0, -1, 0}, {0, 0, 1}, {0, 0, -1}};
        for (int[] n : none) {
            Check.due("good", x.good(n[0], n[1], n[2], -1), -1);
            Check.due("good", x.good(n[0], n[1], n[2], 0), -1);
            Check.due("next", x.next(n[0], n[1], n[2], -1), -1);
            Check.due("next, NONE ahead of BAD", x.next(n[0], n[1], n[2], -2), -1);
            Check.due("least", x.least(n[0], n[1], n[2]), -1);
            Check.due("inAll", x.inAll(n[0], n[1], n[2]), -1);
        }
        Check.due("good -2", x.good(0, 0, 0, -2), -1);
        Check.due("good 1", x.good(0, 0, 0, 1), -1);
        Check.due("good max", x.good(0, 0, 0, Integer.MAX_VALUE), -1);
        Check.due("next -2", x.next(0, 0, 0, -2), -2);
        Check.due("next 8", x.next(0, 0, 0, 8), -2);
        Check.due("next 7", x.next(0, 0, 0, 7), -5);
        Check.due("next 0", x.next(0, 0, 0, 0), -5);
    }

    private static int bits(int... places) {
        int set = 0;
        for (int place : places) {
            set |= 1 << place;
        }
        return set;
    }
}
