/** Promises 6 to 10, and what READS, MEANS and LET say: each sentence at its bounds. */
public final class BoundsOfLeftTest {
    private static final int MAX = Integer.MAX_VALUE, MIN = Integer.MIN_VALUE;
    private static final long NO = PencilStrikes.NO;
    private static final String TWELVE = "amnw0,w1&w2i3f4;b";

    public static void main(String[] args) {
        rowsThatRead();
        nothingLeft();
        setsOfAsManyWords();
        readsNone();
        meansDigits();
        meansDutiesAsTheyStand();
        meansNo();
        lawfulNone();
        barredState();
        barredPlaces();
        letNone();
        letAnySet();
        letItems();
        letClauses();
        letNumbers();
        letAll();
        letSense();
        Check.end();
    }

    /** Every row of up to four WORDS, and every one of up to five behind a WHO and a VERB. */
    private static void rowsThatRead() {
        Check.sentence("Terms 1", "A row of WORDS READS if it is: CLAUSES, one at least, with END between");
        for (int words = 1; words <= 4; words++) {
            rowsOf("", "amnwifp&,;", words);
            rowsOf("am", "amnwifp&,;", words);
        }
        rowsOf("by", "nwifp&,;", 5);
        rowsOf("byw", "wif&,;", 5);
        rowsOf("bynw,w", "wif&,;", 4);
        rowsOf("amp;", "bynwifp;", 4);
        for (String text : new String[] {"amw1,w2,w3,w4&w5", "amnw1,w2,w3,w4,w5", "amw1,w2,w3&w4i1f1", "amp1;bmp1;amp1",
            "ayw1;bynw2;ayw1", "amw1&w2i1f1;byp1"}) {
            PencilStrikes y = new PencilStrikes();
            Check.bargain(y, text);
            Check.due("reads " + text, y.reads(0, 0), 1);
        }
    }

    /** Held against the sentence told as a pattern. */
    private static void rowsOf(String ahead, String letters, int words) {
        String clause = "[ab][my](p|n?w(,w)*(&w)?i?f?)";
        PencilStrikes x = new PencilStrikes();
        for (int row = 0; row < Math.pow(letters.length(), words); row++) {
            StringBuilder text = new StringBuilder(ahead);
            for (int rest = row, i = 0; i < words; i++, rest /= letters.length()) {
                text.append(letters.charAt(rest % letters.length()));
            }
            if (x.count(0) == 6) {
                x = new PencilStrikes();
            }
            int b = Check.bargain(x, text.toString().replaceAll("[wifp]", "$01"));
            int want = text.toString().matches(clause + "(;" + clause + ")*") ? 1 : 0;
            Check.due("reads " + text, x.reads(b, 0), want);
        }
    }

    private static void nothingLeft() {
        Check.sentence("Terms 1", "CLAUSES, one at least");
        for (String text : new String[] {"a", ";", "amw1", "amp1;bmp1", TWELVE}) {
            PencilStrikes x = Check.with(text, "most 999");
            int all = (1 << x.word(0, -1)) - 1;
            Check.due("reads, all struck", x.reads(0, all), 0);
            Check.due("means, all struck", x.means(0, all, -1), NO);
            Check.due("lawful, all struck", x.lawful(0, all, 0), 0);
            Check.due("barred, all struck", x.barred(0, all, 0), -3);
            Check.due("cost, all struck", x.cost(0, all, 0), NO);
            Check.due("let, all struck", x.let(0, 0, all), 1);
        }
    }

    private static void setsOfAsManyWords() {
        Check.sentence("Terms 3", "a set of its WORDS (bits of places)");
        for (int words = 1; words <= 12; words++) {
            PencilStrikes x = Check.with("a".repeat(words), "give");
            int all = (1 << words) - 1;
            for (int set : new int[] {all + 1, all + 2, 2 * all + 1, -1, -2, 4096, MAX, MIN}) {
                boolean bad = set < 0 || set > all;
                Check.due("reads " + set + " of " + words, x.reads(0, set), bad ? -2 : 0);
                Check.due("lawful " + set + " of " + words, x.lawful(0, set, 0), bad ? -2 : 0);
                Check.due("barred " + set + " of " + words, x.barred(0, set, 0), bad ? -2 : -3);
                Check.due("let " + set + " of " + words, x.let(0, 0, set), bad ? -2 : 1);
                Check.due("next " + set + " of " + words, x.next(0, 0, 0, set), set == -1 || !bad ? -5 : -2);
                Check.due("means " + set + " of " + words, x.means(0, set, -1), NO);
                Check.due("cost " + set + " of " + words, x.cost(0, set, 0), NO);
            }
            for (int set : new int[] {0, all}) {
                Check.due("reads " + set + " of " + words, x.reads(0, set), 0);
                Check.due("lawful " + set + " of " + words, x.lawful(0, set, 0), 0);
                Check.due("barred " + set + " of " + words, x.barred(0, set, 0), -3);
                Check.due("let " + set + " of " + words, x.let(5, 0, set), 1);
                Check.due("next " + set + " of " + words, x.next(0, 0, 0, set), -5);
            }
        }
    }

    private static void readsNone() {
        Check.sentence("Promise 6", "NONE: bargain; BAD: set.");
        PencilStrikes x = new PencilStrikes();
        Check.bargain(x, "amw1");
        Check.due("reads", x.reads(0, 0), 1);
        for (int b : new int[] {-1, 1, 5, 6, MAX, MIN}) {
            for (int set : new int[] {0, 7, 8, -1, MAX, MIN}) {
                Check.due("reads(" + b + ", " + set + "): NONE is named ahead of BAD", x.reads(b, set), -1);
            }
        }
        for (int set : new int[] {8, 9, 16, 4095, 4096, -1, -8, MAX, MIN}) {
            Check.due("reads(0, " + set + ")", x.reads(0, set), -2);
        }
        PencilStrikes y = new PencilStrikes();
        for (int i = 0; i < 6; i++) {
            Check.bargain(y, i == 5 ? "amw1" : "b");
        }
        Check.due("the last bargain", y.reads(5, 0), 1);
        Check.due("one behind the last", y.reads(6, 0), -1);
        Check.due("each has sets of its own", y.reads(4, 2), -2);
    }

    private static void meansDigits() {
        Check.sentence("Terms 1", "the THING's figure (0 .. 9; of PAY 10 and its figure), FAR, LONG (figures; 10 where there "
            + "is none; of PAY 0)");
        for (int figure = 0; figure <= 9; figure++) {
            for (String who : new String[] {"am", "bm", "ay", "by"}) {
                int whose = who.charAt(0) == 'b' ? 1 : 0;
                int must = who.charAt(1) == 'm' ? 1 : 0;
                dutyIs(who + "w" + figure, whose, must, 0, figure, 10, 10);
                dutyIs(who + "nw" + figure, whose, must, 1, figure, 10, 10);
                dutyIs(who + "w" + figure + "i" + figure, whose, must, 0, figure, figure, 10);
                dutyIs(who + "nw" + figure + "f" + figure, whose, must, 1, figure, 10, figure);
                dutyIs(who + "w0i" + figure + "f" + (9 - figure), whose, must, 0, 0, figure, 9 - figure);
                dutyIs(who + "p" + figure, whose, must, 0, 10 + figure, 0, 0);
            }
        }
    }

    private static void dutyIs(String text, int... digits) {
        PencilStrikes x = new PencilStrikes();
        Check.bargain(x, text);
        Check.due("how many of " + text, x.means(0, 0, -1), 1);
        Check.due(text, x.means(0, 0, 0),
            Check.duty(digits[0], digits[1], digits[2], digits[3], digits[4], digits[5]));
        Check.due("no second of " + text, x.means(0, 0, 1), NO);
    }

    private static void meansDutiesAsTheyStand() {
        Check.sentence("Terms 1", "What it MEANS: DUTIES, CLAUSE by CLAUSE, THING by THING, as they stand");
        PencilStrikes x = new PencilStrikes();
        Check.bargain(x, "amw5,w4,w3,w2&w1");
        Check.due("five are the most", x.means(0, 0, -1), 5);
        for (int i = 0; i < 5; i++) {
            Check.due("the " + i + "-th", x.means(0, 0, i), Check.duty(0, 1, 0, 5 - i, 10, 10));
        }
        Check.bargain(x, "bynw9i0f1;amw9");
        Check.due("first", x.means(1, 0, 0), Check.duty(1, 0, 1, 9, 0, 1));
        Check.due("nothing of the one goes over to the next", x.means(1, 0, 1), Check.duty(0, 1, 0, 9, 10, 10));
        Check.due("b is left for a", x.means(1, Check.bits(1, 2, 3, 4, 5, 6, 7), 0), Check.duty(1, 1, 0, 9, 10, 10));
        Check.due("the first alone", x.means(1, Check.bits(6, 7, 8, 9), 0), Check.duty(1, 0, 1, 9, 0, 1));
        Check.due("the second alone", x.means(1, 127, 0), Check.duty(0, 1, 0, 9, 10, 10));
        Check.bargain(x, "amw1;bmw2i3f4");
        Check.due("a FAR of the second goes to the first, once it is there", x.means(2, Check.bits(3, 4, 5, 6), 0),
            Check.duty(0, 1, 0, 1, 3, 4));
        Check.bargain(x, "amw1,w1;amw1");
        Check.due("the same may stand thrice", x.means(3, 0, -1), 3);
        Check.due("third", x.means(3, 0, 2), x.means(3, 0, 0));
    }

    private static void meansNo() {
        Check.sentence("Promise 7", "how many DUTIES (i -1), the i-th DUTY. NO: bargain, set, i; it does not read.");
        PencilStrikes x = new PencilStrikes();
        Check.bargain(x, "amw1&w2");
        Check.due("how many", x.means(0, 0, -1), 2);
        Check.due("the last", x.means(0, 0, 1), Check.duty(0, 1, 0, 2, 10, 10));
        for (int i : new int[] {-2, 2, 3, 12, MAX, MIN}) {
            Check.due("means(0, 0, " + i + ")", x.means(0, 0, i), NO);
        }
        for (int set : new int[] {1, 2, 4, 8, 31, 32, -1, 4096, MAX, MIN}) {
            Check.due("means(0, " + set + ", -1)", x.means(0, set, -1), NO);
            Check.due("means(0, " + set + ", 0)", x.means(0, set, 0), NO);
        }
        Check.due("one is left", x.means(0, 12, -1), 1);
        Check.due("no second is left", x.means(0, 12, 1), NO);
        for (int b : new int[] {-1, 1, 6, MAX, MIN}) {
            Check.due("means(" + b + ", 0, -1)", x.means(b, 0, -1), NO);
        }
    }

    private static void lawfulNone() {
        Check.sentence("Promise 8", "Whether what is left is LAWFUL (reading, too): 1, 0. NONE: bargain, law; BAD: set.");
        PencilStrikes x = Check.with("amw1", "most 0");
        Check.due("lawful", x.lawful(0, 0, 0), 1);
        for (int set : new int[] {1, 2, 3, 4, 5, 6, 7}) {
            Check.due("unread " + set, x.lawful(0, set, 0), 0);
        }
        for (int wrong : new int[] {-1, 1, 4, 5, 6, MAX, MIN}) {
            for (int set : new int[] {0, 1, 8, -1, MAX, MIN}) {
                Check.due("bargain " + wrong + ": NONE is named ahead of BAD", x.lawful(wrong, set, 0), -1);
                Check.due("law " + wrong + ": NONE is named ahead of BAD", x.lawful(0, set, wrong), -1);
                Check.due("both " + wrong, x.lawful(wrong, set, wrong), -1);
            }
        }
        for (int set : new int[] {8, -1, 4096, MAX, MIN}) {
            Check.due("lawful of " + set, x.lawful(0, set, 0), -2);
        }
        Check.sentence("Terms 2", "(sense: see 3.) .. 3: By a LAW with sense a set must be LET by SENSE besides.");
        PencilStrikes y = Check.with("amw1f2", "sense");
        Check.due("what is left is LAWFUL", y.lawful(0, 8, 0), 1);
        Check.due("yet the set is not GOOD", y.good(0, 0, 0, -1), 1);
        PencilStrikes z = Check.with("abmw1", "sense");
        Check.due("the whole does not read, what is left is LAWFUL", z.lawful(0, 1, 0), 1);
        Check.due("yet none is GOOD", z.good(0, 0, 0, -1), 0);
    }

    private static void barredState() {
        Check.sentence("Promise 9", "NONE; BAD; STATE: it does not read.");
        PencilStrikes x = Check.with("am", "bar w=0");
        Check.bargain(x, "amw1");
        for (int wrong : new int[] {-1, 2, 5, 6, MAX, MIN}) {
            for (int set : new int[] {0, 4, -1, MAX, MIN}) {
                Check.due("bargain " + wrong + ": NONE is first", x.barred(wrong, set, 0), -1);
                Check.due("law " + wrong + ": NONE is first", x.barred(0, set, wrong), -1);
                Check.due("law " + wrong + ": NONE is first", x.barred(1, set, wrong), -1);
            }
        }
        Check.due("law 1", x.barred(1, 0, 1), -1);
        for (int set : new int[] {4, 5, -1, 4096, MAX, MIN}) {
            Check.due("BAD is named ahead of STATE", x.barred(0, set, 0), -2);
        }
        for (int set : new int[] {0, 1, 2, 3}) {
            Check.due("STATE", x.barred(0, set, 0), -3);
        }
        Check.due("the other reads", x.barred(1, 0, 0), 1);
        Check.due("what is left of the other does not", x.barred(1, 1, 0), -3);
    }

    private static void barredPlaces() {
        Check.sentence("Promise 9", "DUTIES of what is left that are BARRED, as bits of their places.");
        PencilStrikes x = Check.with("amw5,w4,w3,w2&w1", "bar w=0");
        for (String bar : new String[] {"bar t=1", "bar t=5", "bar t>9", "sense;give;most 0"}) {
            Check.law(x, bar);
        }
        Check.due("all five", x.barred(0, 0, 0), 31);
        Check.due("the last", x.barred(0, 0, 1), 16);
        Check.due("the first", x.barred(0, 0, 2), 1);
        Check.due("none", x.barred(0, 0, 3), 0);
        Check.due("none without a bar", x.barred(0, 0, 4), 0);
        Check.due("places of what is left", x.barred(0, Check.bits(2, 3, 4, 5, 6, 7), 1), 2);
        Check.due("the only one left", x.barred(0, Check.bits(2, 3, 4, 5, 6, 7, 8, 9), 1), 1);
    }

    private static void letNone() {
        Check.sentence("Promise 10", "NONE: kind, bargain; BAD: set.");
        PencilStrikes x = new PencilStrikes();
        Check.bargain(x, "amw1");
        for (int wrong : new int[] {-1, 7, 8, MAX, MIN}) {
            for (int set : new int[] {0, 8, -1}) {
                Check.due("kind " + wrong + ": NONE is named ahead of BAD", x.let(wrong, 0, set), -1);
                Check.due("bargain " + wrong + ": NONE is named ahead of BAD", x.let(0, wrong, set), -1);
                Check.due("both " + wrong, x.let(wrong, wrong, set), -1);
            }
        }
        Check.due("bargain 1", x.let(0, 1, 0), -1);
        for (int kind = 0; kind <= 6; kind++) {
            for (int set : new int[] {8, 4095, 4096, -1, MAX, MIN}) {
                Check.due("kind " + kind + ", set " + set, x.let(kind, 0, set), -2);
            }
            Check.due("kind " + kind + " lets nothing be struck", x.let(kind, 0, 0), 1);
        }
    }

    private static void letAnySet() {
        Check.sentence("Terms 3", "LET by a KIND: STRIKE, WORDS: any set");
        for (String text : new String[] {"a", "amw1", "w1&,;n"}) {
            PencilStrikes x = new PencilStrikes();
            Check.bargain(x, text);
            for (int set = 0; set < 1 << x.word(0, -1); set++) {
                Check.due("STRIKE lets " + set + " of " + text, x.let(0, 0, set), 1);
                Check.due("WORDS let " + set + " of " + text, x.let(1, 0, set), 1);
            }
        }
    }

    /** Of each place alone, of all the right places, and of these with any one more. */
    private static void ofTheseAlone(int kind, String text, String letters) {
        PencilStrikes x = new PencilStrikes();
        Check.bargain(x, text);
        String row = text.replaceAll("[0-9]", "");
        int right = 0;
        for (int i = 0; i < row.length(); i++) {
            right |= letters.indexOf(row.charAt(i)) >= 0 ? 1 << i : 0;
        }
        Check.due("nothing of " + text, x.let(kind, 0, 0), 1);
        Check.due("all of them of " + text, x.let(kind, 0, right), 1);
        for (int i = 0; i < row.length(); i++) {
            int want = right >> i & 1;
            Check.due("place " + i + " of " + text, x.let(kind, 0, 1 << i), want);
            Check.due("place " + i + " more of " + text, x.let(kind, 0, right | 1 << i), want);
        }
        int all = (1 << row.length()) - 1;
        Check.due("all of " + text, x.let(kind, 0, all), all == right ? 1 : 0);
    }

    private static void letItems() {
        Check.sentence("Terms 3", "ITEMS: of THINGS, ANDS and commas alone");
        ofTheseAlone(2, "abmynw1i2f3p4&,;", "w&,");
        ofTheseAlone(2, ";,&p4f3i2w1nymba", "w&,");
        ofTheseAlone(2, "w1&w2,w3", "w&,");
        ofTheseAlone(2, "w0", "w&,");
        ofTheseAlone(2, "p0", "w&,");
    }

    private static void letNumbers() {
        Check.sentence("Terms 3", "NUMBERS: of FARS and LONGS alone");
        ofTheseAlone(4, "abmynw1i2f3p4&,;", "if");
        ofTheseAlone(4, ";,&p4f3i2w1nymba", "if");
        ofTheseAlone(4, "i0f0i9f9", "if");
        ofTheseAlone(4, "p9", "if");
    }

    private static void letClauses() {
        Check.sentence("Terms 3", "CLAUSES: of each run of WORDS between ENDS all or none (ENDS as one likes)");
        lets(3, "amw1", 0b000, 0b111);
        lets(3, "a", 0, 1);
        lets(3, ";", 0, 1);
        lets(3, ";;", 0, 1, 2, 3);
        lets(3, "am;b", 0, 0b0011, 0b0100, 0b0111, 0b1000, 0b1011, 0b1100, 0b1111);
        lets(3, ";am", 0, 0b001, 0b110, 0b111);
        lets(3, "am;", 0, 0b011, 0b100, 0b111);
        lets(3, "a;;m", 0, 1, 2, 3, 4, 5, 6, 7, 8, 9, 10, 11, 12, 13, 14, 15);
        lets(3, "a;my;n", 0, 1, 2, 3, 0b001100, 0b001101, 0b001110, 0b001111, 0b010000, 0b010001, 0b010010, 0b010011,
            0b011100, 0b011101, 0b011110, 0b011111, 0b100000, 0b100001, 0b100010, 0b100011, 0b101100, 0b101101, 0b101110,
            0b101111, 0b110000, 0b110001, 0b110010, 0b110011, 0b111100, 0b111101, 0b111110, 0b111111);
        PencilStrikes x = new PencilStrikes();
        Check.bargain(x, "w1,w2,w3,w4,w5,w6;");
        Check.due("all of twelve", x.let(3, 0, 4095), 1);
        Check.due("all but the END", x.let(3, 0, 2047), 1);
        Check.due("all but the first", x.let(3, 0, 4094), 0);
        Check.due("all but one ahead of the END", x.let(3, 0, 4095 - 1024), 0);
    }

    private static void lets(int kind, String text, int... sets) {
        PencilStrikes x = new PencilStrikes();
        Check.bargain(x, text);
        int allSets = 1 << x.word(0, -1);
        for (int set = 0; set < allSets; set++) {
            int want = 0;
            for (int one : sets) {
                want = one == set ? 1 : want;
            }
            Check.due("KIND " + kind + " lets " + set + " of " + text, x.let(kind, 0, set), want);
        }
    }

    private static void letAll() {
        Check.sentence("Terms 3", "ALL: nothing, or all WORDS up to some place");
        lets(5, "a", 0, 1);
        lets(5, "am", 0, 1, 3);
        lets(5, "amw1;p1", 0, 1, 3, 7, 15, 31);
        lets(5, ";;;", 0, 1, 3, 7);
        PencilStrikes x = new PencilStrikes();
        Check.bargain(x, TWELVE);
        for (int place = 0; place <= 12; place++) {
            int upTo = (1 << place) - 1;
            Check.due("up to " + place, x.let(5, 0, upTo), 1);
            Check.due("that is more than one", place < 2 ? 0 : x.let(5, 0, upTo - 1), 0);
            Check.due("a hole behind it", place > 10 ? 0 : x.let(5, 0, upTo | 1 << place + 1), 0);
        }
    }

    private static void letSense() {
        Check.sentence("Terms 3", "SENSE: after which what is left READS, and each DUTY that is left was there (if the whole "
            + "READS; else none is let)");
        lets(6, "amw1", 0);
        lets(6, "amw1f2", 0);
        lets(6, "amw1&w2", 0, 0b01100, 0b11000);
        lets(6, "amnw1", 0);
        lets(6, "amw1,w1f3", 0, 0b001100, 0b011000);
        lets(6, "amp1;ayp1", 0, 0b0001111, 0b1111000, 0b0011110, 0b0111100);
        lets(6, "amp1;bmp1", 0, 0b0001111, 0b1111000, 0b0011110, 0b0111100);
        lets(6, "bmp1;amp1", 0, 0b0001111, 0b1111000, 0b0011110, 0b0111100);
        lets(6, "bmw1&w2", 0, 0b01100, 0b11000);
        lets(6, "amp1;byp1", 0, 0b0001111, 0b0111100, 0b1111000);
        // without its LONG the first is as the second: a DUTY that was there
        lets(6, "amw1f2;amw1", 0, 0b00001000, 0b11110000, 0b00011111, 0b00111110, 0b01111100, 0b11111000);
        theDutyOfNumberZero();
        lets(6, "am");
        lets(6, "abmw1");
        lets(6, "amw1;");
        lets(6, ";");
    }

    /** A DUTY whose number is 0 is a DUTY like others. */
    private static void theDutyOfNumberZero() {
        PencilStrikes x = Check.with("ayw1;bmw0i0f0", "sense");
        int zero = Check.bits(2, 3, 4, 5);
        Check.due("its number", x.means(0, zero, 0), 0);
        Check.due("how many", x.means(0, zero, -1), 1);
        Check.due("it was not there", x.let(6, 0, zero), 0);
        PencilStrikes y = Check.with("ayw0i0f0;bmw1", "sense");
        Check.due("its number", y.means(0, 0, 0), 0);
        Check.due("it was there", y.let(6, 0, Check.bits(5, 6, 7, 8)), 1);
        Check.due("it can fall ALONE", y.alone(3, 0), 3);
    }
}
