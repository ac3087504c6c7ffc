/** Promises 16 to 20: cost, dear, alone, apart, saves. */
public final class CostsTest {
    public static void main(String[] args) {
        costs();
        pricesTold();
        dear();
        fair();
        alone();
        apart();
        saves();
        wrongNumbers();
        Check.end();
    }

    private static void costsOf(String text, long a, long b) {
        PencilStrikes x = new PencilStrikes();
        Check.bargain(x, text);
        Check.due("cost of " + text + " for a", x.cost(0, 0, 0), a);
        Check.due("cost of " + text + " for b", x.cost(0, 0, 1), b);
    }

    private static void costs() {
        costsOf("amw1", 50, -25);
        costsOf("amw1f3", 15, -7);
        costsOf("amw1i9f3", 15, -7);
        costsOf("amw1f0", 0, 0);
        costsOf("amnw1f3", 150, -75);
        costsOf("amnw1i2f3", 30, -15);
        costsOf("amnw1", 500, -250);
        costsOf("amw1,w2&w3f1", 15, -7);
        costsOf("ayw1;ayp9", 0, 0);
        costsOf("amp7", 70, -35);
        costsOf("bmp9", -45, 90);
        costsOf("amw1f3;bmw2f1", 13, -2);
        costsOf("amw1f1;bmp9;amp1", -30, 83);
    }

    private static void pricesTold() {
        PencilStrikes x = new PencilStrikes();
        Check.bargain(x, "amw1&w2f2;bmw2f3");
        x.price(1, 0);
        x.price(2, 99);
        Check.due("for a", x.cost(0, 0, 0), 198 - 297 / 2);
        Check.due("for b", x.cost(0, 0, 1), 297 - 198 / 2);
        Check.due("of what is left for a", x.cost(0, 0b11000, 0), -297 / 2);
        Check.due("unread", x.cost(0, 1, 0), PencilStrikes.NO);
        Check.due("no set", x.cost(0, -1, 0), PencilStrikes.NO);
        Check.due("no set", x.cost(0, 4096, 0), PencilStrikes.NO);
        Check.due("no one", x.cost(0, 0, 2), PencilStrikes.NO);
        Check.due("no one", x.cost(0, 0, -1), PencilStrikes.NO);
        Check.due("no bargain", x.cost(1, 0, 0), PencilStrikes.NO);
        Check.due("no bargain", x.cost(-1, 0, 0), PencilStrikes.NO);
    }

    private static void dear() {
        PencilStrikes x = new PencilStrikes();
        Check.bargain(x, "amw1,w2f3;bmp1");
        Check.law(x, "give");
        Check.law(x, "most 0");
        Check.law(x, "bar v=1");
        // a pays least with one thing for 15; of two such sets the least
        Check.due("for a, both giving", x.dear(0, 0, 0, 0), 0b001100);
        Check.due("for b, both giving", x.dear(0, 0, 0, 1), 0b100000);
        Check.due("for a", x.dear(3, 0, 1, 0), 0b001111111);
        Check.due("for b", x.dear(3, 0, 1, 1), 0b1111000000);
        Check.due("none", x.dear(0, 0, 2, 0), -5);
        Check.due("none", x.dear(0, 0, 2, 2), -5);
        Check.bargain(x, "amw1&w2f3;bmp1");
        Check.due("NUMBERS for a", x.dear(4, 1, 0, 0), 0);
        Check.due("NUMBERS for b", x.dear(4, 1, 0, 1), 0b100000);
        fewerWordsFirst();
    }

    /** Of sets that cost the same, a greater one of fewer WORDS is DEAR. */
    private static void fewerWordsFirst() {
        PencilStrikes x = new PencilStrikes();
        Check.bargain(x, "ayw1,w2f3");
        Check.law(x, "bar t=1&f=3");
        Check.due("the least set", x.good(0, 0, 0, 0), 0b001100);
        for (int who = 0; who < 3; who++) {
            Check.due("fewer words", x.dear(0, 0, 0, who), 0b100000);
        }
        Check.law(x, "bar f=3");
        Check.due("fewest words", x.dear(0, 0, 1, 0), 0b100000);
        Check.law(x, "bar t=1|f=3");
        Check.due("one thing, no LONG", x.dear(0, 0, 2, 0), 0b101100);
    }

    private static void fair() {
        PencilStrikes x = new PencilStrikes();
        Check.bargain(x, "amw1,w2f3;bmp2");
        Check.law(x, "give");
        // a 15 and b 20 are 5 thirds apart by half, 30 and 20 ten
        Check.due("fair", x.dear(0, 0, 0, 2), 0b001100);
        Check.due("a", x.cost(0, 0b001100, 0), 5);
        Check.due("b", x.cost(0, 0b001100, 1), 13);
        Check.bargain(x, "amp9;bmp1");
        Check.law(x, "most 0");
        Check.due("fair, as b alone pays 1", x.dear(3, 1, 1, 2), 0b0001111);
        Check.due("all of it", x.dear(3, 1, 0, 2), 0);
    }

    private static void alone() {
        PencilStrikes x = new PencilStrikes();
        Check.bargain(x, "amw1,w2;byp3");
        Check.due("STRIKE", x.alone(0, 0), 0b111);
        Check.due("WORDS", x.alone(1, 0), 0b111);
        Check.due("ITEMS", x.alone(2, 0), 0b011);
        Check.due("CLAUSES", x.alone(3, 0), 0b100);
        Check.due("NUMBERS", x.alone(4, 0), 0);
        Check.due("ALL", x.alone(5, 0), 0);
        Check.due("SENSE", x.alone(6, 0), 0b111);
        Check.bargain(x, "byp3;amw1,w2");
        Check.due("ALL up to the END", x.alone(5, 1), 0b001);
        Check.bargain(x, "amw1");
        Check.due("the only one", x.alone(0, 2), 0);
        Check.bargain(x, "amw2&w2i1");
        Check.due("two alike fall each", x.alone(2, 3), 0b11);
        Check.bargain(x, "abmw1;amw2");
        Check.due("the whole does not read", x.alone(0, 4), -3);
        Check.due("NONE", x.alone(7, 4), -1);
        Check.due("NONE", x.alone(-1, 0), -1);
        Check.due("NONE", x.alone(0, 5), -1);
        Check.due("NONE", x.alone(0, -1), -1);
    }

    private static void apart() {
        PencilStrikes x = new PencilStrikes();
        Check.bargain(x, "byp3;amw1,w2");
        Check.law(x, "most 0");
        Check.law(x, "bar p<99");
        Check.law(x, "bar t<10");
        Check.law(x, "bar t=1|t=13");
        Check.due("none barred", x.apart(2, 0, 0), 0);
        Check.due("three pairs, of one both can fall", x.apart(2, 0, 1), 2);
        Check.due("three pairs, one DUTY can fall", x.apart(3, 0, 1), 3);
        Check.due("all fall alone", x.apart(0, 0, 1), 0);
        Check.due("none falls alone", x.apart(4, 0, 1), 3);
        Check.due("both fall", x.apart(2, 0, 2), 0);
        Check.due("neither falls", x.apart(3, 0, 2), 1);
        Check.due("one falls", x.apart(2, 0, 3), 1);
        Check.due("the other falls", x.apart(3, 0, 3), 1);
        Check.bargain(x, "amn");
        Check.due("the whole does not read", x.apart(0, 1, 0), -3);
        Check.due("NONE ahead of STATE", x.apart(0, 1, 4), -1);
    }

    private static void savesOf(String law, String bargain, int want) {
        PencilStrikes x = new PencilStrikes();
        Check.due("law " + law, Check.law(x, law), 0);
        Check.due("bargain " + bargain, Check.bargain(x, bargain), 0);
        Check.due("saves of " + bargain + " by " + law, x.saves(0, 0), want);
    }

    private static void saves() {
        savesOf("most 0", "amw1", 0);
        savesOf("most 0", "amnw1", 10);
        savesOf("most 3", "amnw1,w2f5", 7);
        savesOf("most 10", "amnw1,w2f5", 0);
        savesOf("most 99;most 2;most 5", "amnw1,w2f5", 8);
        savesOf("most 0", "amnw1,w2,w3,w4&w5", 50);
        savesOf("give", "amw1;bmw1", 0);
        savesOf("give", "amw1", -5);
        savesOf("give;most 1", "amw1", -5);
        savesOf("bar t=1;most 1", "amnw1f9", -5);
        savesOf("bar t=2;most 1", "amnw1f9", 8);
        savesOf("sense", "amnw1", 0);
        savesOf("most 0", "abmw1", -5);
    }

    private static void wrongNumbers() {
        PencilStrikes x = new PencilStrikes();
        Check.bargain(x, "amw1");
        Check.law(x, "most 0");
        int[][] none = {{7, 0, 0}, {-1, 0, 0}, {0, 1, 0}, {0, -1, 0}, {0, 0, 1}, {0, 0, -1}};
        for (int[] n : none) {
            for (int who = -1; who < 4; who++) {
                Check.due("dear", x.dear(n[0], n[1], n[2], who), -1);
            }
            Check.due("apart", x.apart(n[0], n[1], n[2]), -1);
            Check.due("saves", x.saves(n[0] == 0 ? n[1] : n[0], n[2]), -1);
        }
        Check.due("dear for 3", x.dear(0, 0, 0, 3), -1);
        Check.due("dear for -1", x.dear(0, 0, 0, -1), -1);
        Check.due("dear for 2", x.dear(0, 0, 0, 2), 0);
    }
}
