/** Promises 16 to 20, and what COST, DEAR, FAIR, ALONE, APART and SAVES say: each sentence at its bounds. */
public final class BoundsOfCostsTest {
    private static final int MAX = Integer.MAX_VALUE, MIN = Integer.MIN_VALUE;
    private static final long NO = PencilStrikes.NO;
    private static final int[] WRONG = {-1, 1, 5, 6, 7, MAX, MIN};

    public static void main(String[] args) {
        costOfDuties();
        costByHalf();
        costOfPrices();
        costNo();
        dearIsBest();
        dearTies();
        fairTies();
        dearNone();
        aloneDuties();
        aloneLikeDuties();
        aloneState();
        apartPairs();
        apartState();
        savesLeast();
        savesNone();
        Check.end();
    }

    private static void costs(String text, long a, long b) {
        PencilStrikes x = new PencilStrikes();
        Check.bargain(x, text);
        Check.due("of " + text + " for a", x.cost(0, 0, 0), a);
        Check.due("of " + text + " for b", x.cost(0, 0, 1), b);
    }

    private static void costOfDuties() {
        Check.sentence("Terms 3", "COST: of his DUTIES that he must, NOT or not: the PRICE of the THING times LONG, and that "
            + "times FAR, too, if it is NOT; of PAY 10 times its figure");
        costs("amw0f0", 0, 0);
        costs("amw0f2", 10, -5);
        costs("amw0i9f2", 10, -5);
        costs("amw0i0f2", 10, -5);
        costs("amw0", 50, -25);
        costs("amnw0i0f2", 0, 0);
        costs("amnw0i3f2", 30, -15);
        costs("amnw0i3f0", 0, 0);
        costs("amnw0f2", 100, -50);
        costs("amnw0i2", 100, -50);
        costs("amnw0", 500, -250);
        costs("amp0", 0, 0);
        costs("amp1", 10, -5);
        costs("amp9", 90, -45);
        costs("bmp9", -45, 90);
        costs("ayw0;bynw0;ayp9", 0, 0);
        costs("ayw0;bmw0f2", -5, 10);
        costs("bmnw9f2", -50, 100);
    }

    private static void costByHalf() {
        Check.sentence("Terms 3", "less the sum of those of the other one by half (cut)");
        costs("amw1f1", 5, -2);
        costs("amw1f3", 15, -7);
        costs("amw1f1;amw1f1", 10, -5);
        costs("amw1,w2&w3f1", 15, -7);
        costs("amw1f1;bmw1f1", 3, 3);
        costs("amw1f3;bmw1f1", 13, -2);
        costs("bmw1&w1f1;amw1f1", 0, 8);
        PencilStrikes x = new PencilStrikes();
        x.price(1, 1);
        Check.bargain(x, "bmw1f1");
        Check.due("the half of 1 is 0", x.cost(0, 0, 0), 0);
        Check.due("1", x.cost(0, 0, 1), 1);
    }

    private static void costOfPrices() {
        Check.sentence("Terms 3", "PRICES of THINGS (0 .. 99; 5 at first)");
        PencilStrikes x = new PencilStrikes();
        Check.bargain(x, "amnw0,w1,w2,w3&w4");
        Check.bargain(x, "bmw5,w6,w7,w8,w9");
        Check.due("5 at first", x.cost(0, 0, 0), 2500);
        Check.due("5 at first", x.cost(1, 0, 1), 250);
        for (int thing = 0; thing < 10; thing++) {
            x.price(thing, 0);
            int b = thing < 5 ? 0 : 1;
            Check.due("0 for " + thing, x.cost(b, 0, b), (b == 0 ? 500 : 50) * (4 - thing % 5));
        }
        Check.due("all for 0", x.cost(0, 0, 0) + x.cost(1, 0, 1) + x.cost(0, 0, 1) + x.cost(1, 0, 0), 0);
        for (int thing = 0; thing < 10; thing++) {
            x.price(thing, 99);
        }
        Check.due("the most of all", x.cost(0, 0, 0), 49500);
        Check.due("the least of all", x.cost(0, 0, 1), -24750);
        Check.due("BAD", x.price(0, 100), -2);
        Check.due("a PRICE that is BAD changes nothing", x.cost(0, 0, 0), 49500);
        Check.bargain(x, "amp9");
        Check.due("PAY has no PRICE", x.cost(2, 0, 0), 90);
    }

    private static void costNo() {
        Check.sentence("Promise 16", "for one (0 a, 1 b). NO: bargain, set, who; it does not read.");
        PencilStrikes x = Check.with("amw1f1", "most 0");
        Check.due("a", x.cost(0, 0, 0), 5);
        Check.due("b", x.cost(0, 0, 1), -2);
        for (int who : new int[] {-1, 2, 3, MAX, MIN}) {
            Check.due("who " + who, x.cost(0, 0, who), NO);
        }
        for (int b : new int[] {-1, 1, 6, MAX, MIN}) {
            Check.due("bargain " + b, x.cost(b, 0, 0), NO);
        }
        for (int set : new int[] {-1, 16, 17, 4096, MAX, MIN}) {
            Check.due("no set " + set, x.cost(0, set, 0), NO);
        }
        for (int set = 0; set < 16; set++) {
            boolean reading = set == 0 || set == 8;
            Check.due("of what is left after " + set, x.cost(0, set, 0), reading ? set == 0 ? 5 : 50 : NO);
        }
    }

    /** DEAR and FAIR of all GOOD ones as the sentence tells them, by calls of promises 11 and 16. */
    private static void bestIs(String bargain, String law, int... prices) {
        for (int kind = 0; kind <= 6; kind++) {
            PencilStrikes x = Check.with(bargain, law);
            for (int thing = 0; thing < prices.length; thing++) {
                x.price(thing, prices[thing]);
            }
            int ones = x.good(kind, 0, 0, -1);
            for (int who = 0; who <= 2; who++) {
                int best = -5;
                for (int i = 0; i < ones; i++) {
                    int one = x.good(kind, 0, 0, i);
                    best = best < 0 || isBetter(x, one, best, who) ? one : best;
                }
                Check.due("KIND " + kind + " for " + who + " of " + bargain + " by " + law, x.dear(kind, 0, 0, who), best);
            }
        }
    }

    private static boolean isBetter(PencilStrikes x, int one, int best, int who) {
        long by = weight(x, one, who) - weight(x, best, who);
        int fewer = Integer.bitCount(best) - Integer.bitCount(one);
        return by < 0 || by == 0 && fewer > 0;
    }

    private static long weight(PencilStrikes x, int set, int who) {
        return who < 2 ? x.cost(0, set, who) : Math.abs(x.cost(0, set, 0) - x.cost(0, set, 1));
    }

    private static void dearIsBest() {
        Check.sentence("Terms 3", "DEAR: the GOOD one by which the COST of one is least; .. FAIR: the GOOD one with which both "
            + "COSTS are the least apart");
        bestIs("amnw1,w2f3", "most 99");
        bestIs("amw1,w2f3", "bar t=2", 5, 0, 7);
        bestIs("amw1&w2;bmp2", "give");
        bestIs("bmw1f2;amp1", "most 0", 5, 99);
        bestIs("bmw1f2;amp1", "sense", 5, 1);
        bestIs("amp2;bmp2", "most 0");
        bestIs("amp2;bmp4", "give");
        bestIs("amnw0i2;bmp9", "most 10", 0);
        bestIs("ayw1;byw2", "most 0");
    }

    private static int dear(String bargain, String law, int kind, int who) {
        return Check.with(bargain, law).dear(kind, 0, 0, who);
    }

    private static void dearTies() {
        Check.sentence("Terms 3", "DEAR: .. of several that of fewer WORDS, then the least.");
        for (int who = 0; who < 2; who++) {
            Check.due("nothing is struck, if all cost the same", dear("ayw1,w2f3", "most 0", 0, who), 0);
            Check.due("fewer WORDS, though not the least", dear("ayw1,w2f3", "bar t=1&f=3", 0, who), 0b100000);
            Check.due("as many WORDS: the least", dear("ayw1,w1", "most 0;bar t=2", 0, who), 0);
            Check.due("as many WORDS: the least", dear("aymw1", "bar p>0", 0, who), who == 0 ? 0b0100 : 0b0010);
        }
        Check.due("either THING of two alike", dear("amw1,w1;bmw1", "give", 2, 0), 0b0001100);
        Check.due("the one that pays for a", dear("amp1;bmp9", "most 0", 0, 0), 0b0001111);
        Check.due("the one that pays for b", dear("amp9;bmp1", "most 0", 0, 1), 0b1111000);
        Check.due("a COST below 0 is less than 0: b's last CLAUSE stays", dear("ayp1;bmp0;bmp1", "most 0", 3, 0), 0);
    }

    private static void fairTies() {
        Check.sentence("Terms 3", "FAIR: .. both COSTS are the least apart; of several so, too.");
        Check.due("nothing apart", dear("amp2;bmp2", "most 0", 0, 2), 0);
        Check.due("b's COST the greater, nothing of it is struck", dear("amp1;bmp2", "give", 0, 2), 0);
        Check.due("apart by less on the other side", dear("amp9;bmp8;bmp3", "most 0", 3, 2), 0b11110000000);
        Check.due("fewer WORDS, though not the least", dear("ayw1,w2f3", "bar t=1&f=3", 0, 2), 0b100000);
        Check.due("as many WORDS: the least", dear("amp1;bmp1", "bar w=0&p=1|w=1&p=1", 3, 2), 0b0001111);
        Check.due("as many WORDS: the least", dear("bmp1;amp1", "bar w=0&p=1|w=1&p=1", 3, 2), 0b0001111);
    }

    private static void dearNone() {
        Check.sentence("Promise 17", "DEAR for one (who 0, 1), FAIR (who 2); -5. NONE.");
        for (int who = 0; who <= 2; who++) {
            Check.due("the only one for " + who, dear("amw1", "most 0", 0, who), 0);
            Check.due("none is LAWFUL", dear("amw1", "bar w=0", 0, who), -5);
            Check.due("none READS", dear("m", "most 0", 0, who), -5);
            Check.due("none is LET", dear("amnw1", "most 9", 4, who), -5);
        }
        for (String law : new String[] {"most 0", "bar w<2"}) {
            PencilStrikes x = Check.with("amw1", law);
            for (int who : new int[] {-1, 3, 4, MAX, MIN}) {
                Check.due("NONE, be it GOOD or not: who " + who, x.dear(0, 0, 0, who), -1);
            }
            for (int wrong : WRONG) {
                Check.due("bargain " + wrong, x.dear(0, wrong, 0, 0), -1);
                Check.due("law " + wrong, x.dear(0, 0, wrong, 2), -1);
                Check.due("both " + wrong, x.dear(6, wrong, wrong, 1), -1);
            }
            for (int kind : new int[] {-1, 7, 8, MAX, MIN}) {
                Check.due("kind " + kind, x.dear(kind, 0, 0, 0), -1);
            }
        }
    }

    private static int alone(String bargain, int kind) {
        PencilStrikes x = new PencilStrikes();
        Check.bargain(x, bargain);
        return x.alone(kind, 0);
    }

    private static void aloneDuties() {
        Check.sentence("Terms 3", "ALONE: DUTIES of the whole for which there is a set LET by a KIND after which it READS and "
            + "MEANS all other DUTIES, in their order, and not that one.");
        for (int kind = 0; kind <= 6; kind++) {
            Check.due("the only DUTY can't fall, KIND " + kind, alone("amw1", kind), 0);
            Check.due("nor can a PAY, KIND " + kind, alone("amp1", kind), 0);
            Check.due("of five THINGS, KIND " + kind, alone("amw1,w2,w3,w4,w5", kind), kind < 3 || kind == 6 ? 31 : 0);
            Check.due("of three CLAUSES, KIND " + kind, alone("amp1;bmp2;amp3", kind),
                new int[] {7, 7, 0, 7, 0, 1, 7}[kind]);
        }
        Check.due("a THING whose AND falls, too", alone("amw1,w2&w3f1;byp3", 2), 0b0111);
        Check.due("b's as well as a's", alone("bynw1&w2i3;amp1", 0), 0b111);
        Check.due("CLAUSES of one DUTY alone", alone("amw1,w2;byp3", 3), 0b100);
        Check.due("ALL: up to the END", alone("amp1;bmw1&w2", 5), 0b001);
        Check.due("ALL: the last can't", alone("amw1,w2;bmp1", 5), 0);
        Check.due("with its END on either side", alone("amp1;bmp2", 3), 0b11);
        Check.due("NUMBERS: no DUTY falls by them", alone("amw1f1;bmw2i2f2", 4), 0);
    }

    private static void aloneLikeDuties() {
        Check.sentence("Terms 3", "ALONE: (by their places)");
        Check.due("either of two alike", alone("amw2&w2f1", 2), 0b11);
        Check.due("the like ones of three", alone("amw1,w1,w2", 2), 0b111);
        Check.due("of two CLAUSES alike, ALL take the first: what is left is as if the second fell", alone("amp1;amp1", 5),
            0b11);
        Check.due("of two CLAUSES unlike, ALL take the first", alone("amp1;amp2", 5), 0b01);
        Check.due("places as they stand", alone("amp1;amw1,w2", 3), 0b001);
        Check.due("places as they stand", alone("amw1,w2;amp1", 3), 0b100);
    }

    private static void aloneState() {
        Check.sentence("Promise 18", "ALONE, as bits. NONE; STATE: the whole does not read.");
        PencilStrikes x = new PencilStrikes();
        for (int b : WRONG) {
            Check.due("none yet: " + b, x.alone(0, b), -1);
        }
        String[] texts = {"abmw1", "amw1&w2;", "w1", ";", "amw1&w2&w3", "amw1&w2"};
        for (int i = 0; i < texts.length; i++) {
            Check.bargain(x, texts[i]);
            for (int kind = 0; kind <= 6; kind++) {
                int want = i < 5 ? -3 : kind < 3 || kind == 6 ? 3 : 0;
                Check.due("KIND " + kind + " of " + texts[i], x.alone(kind, i), want);
            }
            for (int kind : new int[] {-1, 7, 8, MAX, MIN}) {
                Check.due("NONE is named ahead of STATE: " + kind, x.alone(kind, i), -1);
            }
        }
        for (int b : new int[] {-1, 6, 7, MAX, MIN}) {
            Check.due("alone(0, " + b + ")", x.alone(0, b), -1);
        }
    }

    private static int apart(String bargain, String law, int kind) {
        return Check.with(bargain, law).apart(kind, 0, 0);
    }

    private static void apartPairs() {
        Check.sentence("Terms 3", "APART: pairs of DUTIES that are BARRED by a LAW of which one at least can't fall ALONE.");
        Check.due("none is BARRED", apart("amw1,w2,w3", "give;most 0;sense", 4), 0);
        Check.due("one is BARRED: no pair", apart("amw1,w2,w3", "bar t=2", 4), 0);
        Check.due("two that can't fall", apart("amw1,w2,w3", "bar t<3", 4), 1);
        Check.due("three that can't fall", apart("amw1,w2,w3", "bar t<9", 4), 3);
        Check.due("five that can't fall", apart("amw1,w2,w3,w4,w5", "bar t<9", 4), 10);
        Check.due("five that all fall", apart("amw1,w2,w3,w4,w5", "bar t<9", 2), 0);
        Check.due("the only one of a BARGAIN", apart("amw1", "bar t<9", 0), 0);
        Check.due("three of which one falls", apart("amw1,w2;byp3", "bar t<99", 3), 3);
        Check.due("three of which two fall", apart("amw1,w2;byp3", "bar t<99", 2), 2);
        Check.due("two of which one falls", apart("amw1,w2;byp3", "bar t>1", 3), 1);
        Check.due("two of which none falls", apart("amw1,w2;byp3", "bar t<3", 3), 1);
        Check.due("two of which both fall", apart("amw1,w2;byp3", "bar t<3", 2), 0);
        Check.due("BARRED by several bars", apart("amw1,w2;byp3", "bar t=1;bar t=2", 4), 1);
        Check.due("whose they are, by a's bar", apart("bmw1,w2;amp3", "bar w=0", 4), 0);
        Check.due("whose they are, by b's bar", apart("bmw1,w2;amp3", "bar w=1", 4), 1);
        Check.due("what can't fall, but is not BARRED", apart("amw1,w2;byp3", "bar t>9", 4), 0);
    }

    private static void apartState() {
        Check.sentence("Promise 19", "APART: how many pairs. NONE; STATE: the whole does not read.");
        PencilStrikes x = Check.with("abmw1", "bar w<2");
        for (int kind = 0; kind <= 6; kind++) {
            Check.due("STATE", x.apart(kind, 0, 0), -3);
        }
        for (int kind : new int[] {-1, 7, 8, MAX, MIN}) {
            Check.due("NONE is named ahead of STATE: " + kind, x.apart(kind, 0, 0), -1);
        }
        for (int wrong : WRONG) {
            Check.due("NONE is named ahead of STATE: bargain " + wrong, x.apart(0, wrong, 0), -1);
            Check.due("NONE is named ahead of STATE: law " + wrong, x.apart(0, 0, wrong), -1);
        }
    }

    private static int saves(String bargain, String law) {
        return Check.with(bargain, law).saves(0, 0);
    }

    private static void savesLeast() {
        Check.sentence("Terms 3", "SAVES: the least number that may be added to each n of most (0 .. 60) so that nothing need "
            + "be struck");
        Check.due("nothing is wanting", saves("amnw1f9", "most 9"), 0);
        Check.due("more than is wanted", saves("amnw1f9", "most 999"), 0);
        Check.due("1 is wanting", saves("amnw1f9", "most 8"), 1);
        Check.due("all of it is wanting", saves("amnw1f9", "most 0"), 9);
        Check.due("50, of five LONGS of 10", saves("amnw1,w2,w3,w4,w5", "most 0"), 50);
        Check.due("49", saves("amnw1,w2,w3,w4,w5", "most 1"), 49);
        Check.due("to each n: the least of them counts", saves("amnw1,w2,w3,w4,w5", "most 30;most 7;most 49"), 43);
        Check.due("no most, all LAWFUL", saves("amnw1", "bar t=9"), 0);
        Check.due("no NOT", saves("amw1", "most 0"), 0);
        Check.due("with sense: nothing is struck", saves("amnw1f2", "sense;most 0"), 2);
        Check.due("with give", saves("amnw1;amw1;bmw1", "give;most 9"), 1);
    }

    private static void savesNone() {
        Check.sentence("Promise 20", "SAVES; -5 (the whole READS and is LAWFUL then). NONE.");
        Check.due("a bar holds", saves("amnw1f2", "most 0;bar t=1"), -5);
        Check.due("a bar holds, no most", saves("amw1", "bar t=1"), -5);
        Check.due("one gives nothing", saves("amnw1f2", "most 0;give"), -5);
        Check.due("a bar of b's", saves("bmnw1f2", "most 0;bar w=1"), -5);
        Check.due("a bar of a's", saves("bmnw1f2", "most 0;bar w=0"), 2);
        Check.due("the whole does not read", saves("abmw1", "most 0"), -5);
        Check.due("nor does this", saves("am", "sense"), -5);
        PencilStrikes x = Check.with("amw1", "most 0");
        PencilStrikes y = Check.with("a", "bar w<2");
        for (int wrong : WRONG) {
            Check.due("bargain " + wrong, x.saves(wrong, 0), -1);
            Check.due("law " + wrong, x.saves(0, wrong), -1);
            Check.due("both " + wrong, x.saves(wrong, wrong), -1);
            Check.due("NONE ahead of -5: bargain " + wrong, y.saves(wrong, 0), -1);
            Check.due("NONE ahead of -5: law " + wrong, y.saves(0, wrong), -1);
        }
    }
}
