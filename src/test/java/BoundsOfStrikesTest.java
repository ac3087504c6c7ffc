import java.util.ArrayList;
import java.util.List;

/** Promises 11 to 15, and what GOOD, LEAST, IN ALL and PLAIN say: each sentence at its bounds. */
public final class BoundsOfStrikesTest {
    private static final int MAX = Integer.MAX_VALUE, MIN = Integer.MIN_VALUE;
    private static final String[] BARGAINS = {"amw1", "amnw1f2", "ayw1,w2f3", "amp1", "am", "abmw1",
        "amw1&w1", "bmnw1i2", "b;amw1"};
    private static final String[] LAWS = {"most 99", "sense", "most 2", "bar t=1", "bar v=1", "give", "sense;most 2",
        "bar f=10|i=10", "bar w<2"};

    public static void main(String[] args) {
        goodIsLetReadsLawful();
        goodNoIth();
        goodOfTwelveWords();
        nextGreaterThanTold();
        nextBad();
        leastOfSeveral();
        leastNone();
        inAllOfNone();
        inAllOfEvery();
        plainOfTheWhole();
        plainState();
        noneAsTold();
        Check.end();
    }

    /** GOOD ones as the document's sentence tells them, by calls of promises 8 and 10. */
    private static List<Integer> goodOnes(PencilStrikes x, int kind, boolean sense) {
        List<Integer> ones = new ArrayList<>();
        for (int set = 0; set < 1 << x.word(0, -1); set++) {
            boolean let = x.let(kind, 0, set) == 1 && (!sense || x.let(6, 0, set) == 1);
            if (let && x.lawful(0, set, 0) == 1) {
                ones.add(set);
            }
        }
        return ones;
    }

    private static void goodIsLetReadsLawful() {
        Check.sentence("Terms 3", "GOOD by a KIND and a LAW: LET, what is left READS, and is LAWFUL. (By a LAW with sense a set "
            + "must be LET by SENSE besides.)");
        for (String bargain : BARGAINS) {
            for (String law : LAWS) {
                for (int kind = 0; kind <= 6; kind++) {
                    PencilStrikes x = Check.with(bargain, law);
                    allOf(x, kind, bargain + " by " + law, goodOnes(x, kind, law.contains("sense")));
                }
            }
        }
    }

    private static void allOf(PencilStrikes x, int kind, String told, List<Integer> want) {
        String by = "KIND " + kind + " of " + told;
        int words = x.word(0, -1);
        Check.due("how many, " + by, x.good(kind, 0, 0, -1), want.size());
        int before = -1;
        int common = (1 << words) - 1;
        int least = -5;
        for (int i = 0; i < want.size(); i++) {
            int one = want.get(i);
            Check.due("the " + i + "-th, " + by, x.good(kind, 0, 0, i), one);
            Check.due("behind " + before + ", " + by, x.next(kind, 0, 0, before), one);
            Check.due("at once behind " + (one - 1) + ", " + by, x.next(kind, 0, 0, one - 1), one);
            before = one;
            common &= one;
            least = least < 0 || Integer.bitCount(one) < Integer.bitCount(least) ? one : least;
        }
        Check.due("no more, " + by, x.good(kind, 0, 0, want.size()), -1);
        Check.due("behind the last, " + by, x.next(kind, 0, 0, before), -5);
        Check.due("behind all, " + by, x.next(kind, 0, 0, (1 << words) - 1), -5);
        Check.due("least, " + by, x.least(kind, 0, 0), least);
        Check.due("in all, " + by, x.inAll(kind, 0, 0), common);
    }

    private static void goodNoIth() {
        Check.sentence("Promise 11", "how many (i -1), the i-th, from the least set on. NONE: .. no i-th.");
        PencilStrikes x = Check.with("amw1&w2", "most 0");
        Check.due("how many", x.good(0, 0, 0, -1), 3);
        Check.due("the first", x.good(0, 0, 0, 0), 0);
        Check.due("the second", x.good(0, 0, 0, 1), 0b01100);
        Check.due("the last", x.good(0, 0, 0, 2), 0b11000);
        for (int i : new int[] {-2, -3, 3, 4, 31, 32, MAX, MIN}) {
            Check.due("good(0, 0, 0, " + i + ")", x.good(0, 0, 0, i), -1);
        }
        PencilStrikes none = Check.with("amw1", "bar w=0");
        Check.due("how many of none", none.good(0, 0, 0, -1), 0);
        for (int i : new int[] {0, 1, -2, MAX, MIN}) {
            Check.due("none: good(0, 0, 0, " + i + ")", none.good(0, 0, 0, i), -1);
        }
        PencilStrikes one = Check.with("amw1", "most 0");
        Check.due("how many of one", one.good(0, 0, 0, -1), 1);
        Check.due("it strikes nothing", one.good(0, 0, 0, 0), 0);
        Check.due("no second", one.good(0, 0, 0, 1), -1);
    }

    private static void goodOfTwelveWords() {
        Check.sentence("Terms 1", "WORDS, 1 to 12 of them: GOOD ones with the bits of places 0 .. 11");
        PencilStrikes x = Check.with("amp1;bmp2;ayp3;", "most 0");
        Check.due("twelve", x.word(0, -1), 12);
        int last = x.good(3, 0, 0, x.good(3, 0, 0, -1) - 1);
        Check.due("the last leaves the first CLAUSE alone", last, 0b111111111000);
        Check.due("behind the one before it", x.next(3, 0, 0, last - 1), last);
        Check.due("none behind it", x.next(3, 0, 0, last), -5);
        Check.due("none behind all", x.next(3, 0, 0, 4095), -5);
        PencilStrikes y = Check.with("a;b;n;amw1&w2", "bar t=2");
        Check.due("the least strikes all but the last CLAUSE's first THING", y.least(0, 0, 0),
            Check.bits(0, 1, 2, 3, 4, 5, 9, 10));
        Check.due("eleven words", y.word(0, -1), 11);
    }

    private static void nextGreaterThanTold() {
        Check.sentence("Promise 12", "The first GOOD one that is a greater set than a told one (-1: the first of all); -5: none.");
        PencilStrikes x = Check.with("amw1&w2", "most 0");
        int[] ones = {0, 0b01100, 0b11000};
        for (int told = -1; told < 32; told++) {
            int want = told < ones[0] ? ones[0] : told < ones[1] ? ones[1] : told < ones[2] ? ones[2] : -5;
            Check.due("behind " + told, x.next(0, 0, 0, told), want);
        }
        PencilStrikes none = Check.with("amw1", "bar w=0");
        for (int told = -1; told < 8; told++) {
            Check.due("none behind " + told, none.next(0, 0, 0, told), -5);
        }
        PencilStrikes later = Check.with("abmw1", "bar w=1");
        Check.due("the first of all need not be 0", later.next(0, 0, 0, -1), 2);
        Check.due("behind 0", later.next(0, 0, 0, 0), 2);
        Check.due("behind 1", later.next(0, 0, 0, 1), 2);
        Check.due("behind itself", later.next(0, 0, 0, 2), -5);
    }

    private static void nextBad() {
        Check.sentence("Promise 12", "NONE; BAD: set (-1, too, may be told).");
        for (String law : new String[] {"most 0", "bar w<2"}) {
            PencilStrikes x = Check.with("amw1", law);
            int first = law.equals("most 0") ? 0 : -5;
            Check.due("-1 may be told", x.next(0, 0, 0, -1), first);
            Check.due("7 may be told", x.next(0, 0, 0, 7), -5);
            for (int set : new int[] {-2, -3, 8, 9, 16, 4095, 4096, MAX, MIN}) {
                for (int kind = 0; kind <= 6; kind++) {
                    Check.due("BAD, by KIND " + kind + ": " + set, x.next(kind, 0, 0, set), -2);
                }
                Check.due("NONE is named ahead of BAD", x.next(7, 0, 0, set), -1);
                Check.due("NONE is named ahead of BAD", x.next(-1, 0, 0, set), -1);
                Check.due("NONE is named ahead of BAD", x.next(0, 1, 0, set), -1);
                Check.due("NONE is named ahead of BAD", x.next(0, -1, 0, set), -1);
                Check.due("NONE is named ahead of BAD", x.next(0, 0, 1, set), -1);
                Check.due("NONE is named ahead of BAD", x.next(0, 0, -1, set), -1);
            }
        }
    }

    private static void leastOfSeveral() {
        Check.sentence("Terms 3", "LEAST: the GOOD one with the fewest WORDS; of several the least as bits.");
        Check.due("nothing, though others are GOOD", Check.with("amw1&w2", "most 0").least(0, 0, 0), 0);
        Check.due("one WORD, the only one", Check.with("amnw1", "most 9").least(0, 0, 0), 0b0100);
        Check.due("either of two, the least", Check.with("abmw1", "most 9").least(0, 0, 0), 0b00001);
        PencilStrikes x = Check.with("amw1,w2f3", "bar t=1&f=3");
        Check.due("the first one has two WORDS", x.next(0, 0, 0, -1), 0b001100);
        Check.due("a greater one with fewer", x.least(0, 0, 0), 0b100000);
        PencilStrikes y = Check.with("amw2&w1;bmw1", "bar w=0&t=2|w=1");
        // a must w1 is what may be left: with the first w1, or with the second and a part of either CLAUSE
        Check.due("the last of them", y.lawful(0, Check.bits(2, 3, 5, 6, 7, 8), 0), 1);
        Check.due("the least of them", y.least(0, 0, 0), Check.bits(1, 2, 3, 4, 5, 6));
        PencilStrikes z = Check.with("amw1,w2,w3", "most 0");
        Check.law(z, "bar t=1");
        Check.law(z, "bar t=2");
        Check.law(z, "bar t=3");
        Check.due("without w1", z.least(2, 0, 1), 0b0001100);
        Check.due("without w2: either comma may fall, the first does", z.least(2, 0, 2), 0b0011000);
        Check.due("without w3", z.least(2, 0, 3), 0b1100000);
    }

    private static void leastNone() {
        Check.sentence("Promise 13", "LEAST; -5.");
        Check.due("none is GOOD", Check.with("amw1", "bar w=0").least(0, 0, 0), -5);
        Check.due("nothing READS", Check.with("a", "most 0").least(0, 0, 0), -5);
        Check.due("none is LET that is LAWFUL", Check.with("amnw1", "most 9").least(4, 0, 0), -5);
        Check.due("nothing need be struck", Check.with("amw1", "most 0").least(0, 0, 0), 0);
    }

    private static void inAllOfNone() {
        Check.sentence("Promise 14", "IN ALL (all WORDS, if none is GOOD).");
        for (int words = 1; words <= 12; words++) {
            PencilStrikes x = Check.with("n".repeat(words), "most 999");
            for (int kind = 0; kind <= 6; kind++) {
                Check.due("all of " + words, x.inAll(kind, 0, 0), (1 << words) - 1);
            }
        }
        Check.due("reading, but not LAWFUL", Check.with("amw1", "bar t=1").inAll(1, 0, 0), 7);
        Check.due("LAWFUL, but not LET", Check.with("amnw1", "most 9").inAll(4, 0, 0), 15);
    }

    private static void inAllOfEvery() {
        Check.sentence("Terms 3", "IN ALL: WORDS that are in every GOOD one.");
        Check.due("the only GOOD one strikes nothing", Check.with("amw1", "most 0").inAll(0, 0, 0), 0);
        Check.due("the only GOOD one strikes one WORD", Check.with("amnw1", "most 9").inAll(0, 0, 0), 0b0100);
        Check.due("the first GOOD one counts as well", Check.with("amw1&w2", "bar t=1;bar t=3").inAll(0, 0, 0), 0b01100);
        Check.due("the last GOOD one counts as well", Check.with("amw1&w2", "most 0").inAll(0, 0, 0), 0);
        PencilStrikes x = Check.with("abmw1", "most 0");
        Check.due("either of two", x.good(0, 0, 0, -1), 2);
        Check.due("none of them in both", x.inAll(0, 0, 0), 0);
        Check.due("all WORDS of a longer one", Check.with("a;amw1", "most 0").inAll(0, 0, 0), 0b00010);
    }

    private static void plainOfTheWhole() {
        Check.sentence("Terms 3", "PLAIN: of sets after which it MEANS just what the whole means that with the most WORDS; of "
            + "several the least.");
        for (String text : new String[] {"amw1", "amw1&w1", "amw1,w1,w1", "ayp0;ayp0", "amnw0i0f0", "amw1;amw1", "bynw1i9"}) {
            PencilStrikes x = Check.with(text, "most 0");
            int best = -1;
            for (int set = 0; set < 1 << x.word(0, -1); set++) {
                boolean better = best < 0 || Integer.bitCount(set) > Integer.bitCount(best);
                if (better && meansTheSame(x, set)) {
                    best = set;
                }
            }
            Check.due("plain " + text, x.plain(0), best);
        }
    }

    private static boolean meansTheSame(PencilStrikes x, int set) {
        long duties = x.means(0, 0, -1);
        if (x.means(0, set, -1) != duties) {
            return false;
        }
        for (int i = 0; i < duties; i++) {
            if (x.means(0, set, i) != x.means(0, 0, i)) {
                return false;
            }
        }
        return true;
    }

    private static void plainState() {
        Check.sentence("Promise 15", "NONE; STATE: the whole does not read.");
        PencilStrikes x = new PencilStrikes();
        for (int b : new int[] {-1, 0, 1, 5, 6, MAX, MIN}) {
            Check.due("plain(" + b + ") of none", x.plain(b), -1);
        }
        String[] texts = {"abmw1", "amw1;", "a", ";", "amw1&w2,w3", "amw1"};
        for (int i = 0; i < texts.length; i++) {
            Check.bargain(x, texts[i]);
            Check.due("plain " + texts[i], x.plain(i), i == 5 ? 0 : -3);
        }
        Check.due("plain(6)", x.plain(6), -1);
        Check.due("plain(-1)", x.plain(-1), -1);
    }

    private static void noneAsTold() {
        Check.sentence("Promises 11 to 14", "NONE: kind, bargain, law");
        for (String law : new String[] {"most 0", "bar w<2"}) {
            PencilStrikes x = Check.with("amw1", law);
            for (int wrong : new int[] {-1, 1, 5, 6, 7, MAX, MIN}) {
                for (int place = 0; place < 3; place++) {
                    boolean kind = place == 0 && wrong >= 0 && wrong <= 6;
                    if (kind) {
                        continue;
                    }
                    int k = place == 0 ? wrong : 0;
                    int b = place == 1 ? wrong : 0;
                    int l = place == 2 ? wrong : 0;
                    String by = "(" + k + ", " + b + ", " + l;
                    Check.due("good" + by + ", -1)", x.good(k, b, l, -1), -1);
                    Check.due("good" + by + ", 0)", x.good(k, b, l, 0), -1);
                    Check.due("next" + by + ", -1)", x.next(k, b, l, -1), -1);
                    Check.due("least" + by + ")", x.least(k, b, l), -1);
                    Check.due("inAll" + by + ")", x.inAll(k, b, l), -1);
                }
            }
        }
    }
}
