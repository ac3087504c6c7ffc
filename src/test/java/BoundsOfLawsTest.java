/** What section 2 of the document says of LAWS: the FAULT of a text, and LAWFUL, each sentence at its bounds. */
public final class BoundsOfLawsTest {
    private static final String LETTERS = "wvntifp", SIGNS = "<=>";

    public static void main(String[] args) {
        endsTooEarly();
        firstByteWithWhichNoneBegins();
        clausesOneToEight();
        oneBlankAhead();
        numbersOfOneToThreeDigits();
        lettersAndSigns();
        withinFourOthers();
        aLawOfHundredBytes();
        aFaultLeavesNothing();
        testsAtTheirNumbers();
        paidToWhoseItIs();
        barsOfADuty();
        joinedTests();
        giveOfBoth();
        mostAtMost();
        Check.end();
    }

    private static int read(String text) {
        return Check.law(new PencilStrikes(), text);
    }

    private static void faultAt(String text, int place) {
        PencilStrikes x = new PencilStrikes();
        Check.due("law " + text, Check.law(x, text), -10 - place);
        Check.due("laws after " + text, x.count(1), 0);
        Check.due("bytes after " + text, x.count(2), 0);
    }

    private static void stands(String text) {
        Check.due("law " + text, read(text), 0);
    }

    /** All beginnings of a LAW end too early, but for those that are told to be LAWS themselves. */
    private static void beginnings(String law, String... laws) {
        for (int size = 0; size <= law.length(); size++) {
            String text = law.substring(0, size);
            boolean whole = size == law.length();
            for (String one : laws) {
                whole |= one.equals(text);
            }
            Check.due("the beginning " + text, read(text), whole ? 0 : -10 - size);
        }
    }

    private static void endsTooEarly() {
        Check.sentence("Terms 2", "(the end of THE TEXT, if it ends too early)");
        beginnings("give;sense;most 123;give", "give", "give;sense", "give;sense;most 1", "give;sense;most 12",
            "give;sense;most 123");
        beginnings("bar w=0", "bar w=0");
        beginnings("bar t<12|!f>9&(i=10|p=3)", "bar t<1", "bar t<12", "bar t<12|!f>9");
        beginnings("bar !(!(v=1))&!!!!v=1", "bar !(!(v=1))");
        beginnings("bar ((((n=1))))");
        beginnings("most 007;bar n=000", "most 0", "most 00", "most 007", "most 007;bar n=0", "most 007;bar n=00");
    }

    private static void firstByteWithWhichNoneBegins() {
        Check.sentence("Terms 2", "The FAULT: the place of the first byte with which none begins so");
        String law = "give;bar t=1&!(w<1|p>99);most 10;sense";
        for (int place = 0; place < law.length(); place++) {
            for (char other : new char[] {'#', '\0', '\u00ff', 'G', '1' + 128}) {
                faultAt(law.substring(0, place) + other + law.substring(place + 1), place);
                faultAt(law.substring(0, place) + other, place);
            }
        }
        faultAt("Give", 0);
        faultAt(";give", 0);
        faultAt(" give", 0);
        faultAt("1", 0);
        faultAt("give give", 4);
        faultAt("give,give", 4);
        faultAt("sense1", 5);
        faultAt("most 1 ", 6);
        faultAt("most -1", 5);
        faultAt("bar t=-1", 6);
        faultAt("bar t==1", 6);
        faultAt("bar t<=1", 6);
        faultAt("bar t=1t=2", 7);
        faultAt("bar t=1!t=2", 7);
        faultAt("bar t=1(t=2)", 7);
        faultAt("bar (t=1)t=2", 9);
        faultAt("bar (t=1))", 9);
        faultAt("bar t=1&&t=2", 8);
        faultAt("bar t=1||t=2", 8);
        faultAt("bar t=1&;give", 8);
        faultAt("bar !&t=1", 5);
        faultAt("bar ()", 5);
        faultAt("bar (;give)", 5);
        faultAt("bar ;give", 4);
        faultAt("bar 1=t", 4);
        faultAt("bar bar t=1", 4);
    }

    private static void clausesOneToEight() {
        Check.sentence("Terms 2", "CLAUSES, 1 to 8, with ; between");
        for (String clause : new String[] {"give", "sense", "most 3", "bar t=1"}) {
            for (int clauses = 1; clauses <= 8; clauses++) {
                stands((clause + ";").repeat(clauses - 1) + clause);
                int all = (clause.length() + 1) * clauses;
                // behind the eighth not even a ; begins one more
                faultAt((clause + ";").repeat(clauses), clauses < 8 ? all : all - 1);
                faultAt((clause + ";").repeat(clauses) + ";", clauses < 8 ? all : all - 1);
            }
            int eight = (clause.length() + 1) * 8 - 1;
            faultAt((clause + ";").repeat(8) + "give", eight);
            faultAt((clause + ";").repeat(8) + "?", eight);
        }
        faultAt("", 0);
        faultAt(";", 0);
    }

    private static void oneBlankAhead() {
        Check.sentence("Terms 2", "(one blank ahead of each part)");
        for (int oneByte = 0; oneByte < 256; oneByte++) {
            if (oneByte != ' ') {
                faultAt("bar" + (char) oneByte + "t=1", 3);
                faultAt("most" + (char) oneByte + "1", 4);
            }
        }
        faultAt("bar  t=1", 4);
        faultAt("most  1", 5);
        faultAt("bart=1", 3);
        faultAt("most1", 4);
        faultAt("bar t =1", 5);
        faultAt("bar t= 1", 6);
        faultAt("bar t=1 &t=2", 7);
        faultAt("bar t=1& t=2", 8);
        faultAt("bar ! t=1", 5);
        faultAt("bar ( t=1)", 5);
        faultAt("give; give", 5);
        faultAt("give ;give", 4);
    }

    private static void numbersOfOneToThreeDigits() {
        Check.sentence("Terms 2", "n 1 to 3 digits .. a number (likewise)");
        for (String number : new String[] {"0", "9", "00", "10", "99", "000", "100", "999"}) {
            stands("most " + number);
            stands("bar p>" + number);
        }
        for (String number : new String[] {"0000", "1000", "9999", "00001", "12345"}) {
            faultAt("most " + number, 8);
            faultAt("bar t=" + number, 9);
            faultAt("bar (t=" + number + ")", 10);
        }
        faultAt("most ;give", 5);
        faultAt("bar t=;give", 6);
        faultAt("bar t=&t=1", 6);
        for (int oneByte : new int[] {'0' - 1, '9' + 1, 'a', 0, 255, '0' + 128}) {
            faultAt("most " + (char) oneByte, 5);
            faultAt("most 1" + (char) oneByte, 6);
            faultAt("bar t=" + (char) oneByte, 6);
            faultAt("bar t=12" + (char) oneByte, 8);
        }
    }

    private static void lettersAndSigns() {
        Check.sentence("Terms 2", "a TEST: a letter, < or = or >, a number");
        for (int oneByte = 0; oneByte < 256; oneByte++) {
            boolean letter = LETTERS.indexOf(oneByte) >= 0;
            boolean begins = oneByte == '!' || oneByte == '(';
            String text = "bar " + (char) oneByte;
            Check.due("letter " + oneByte, read(text + "=1"), letter ? 0 : begins ? -15 : -14);
            Check.due("letter " + oneByte + " at the end", read(text), letter || begins ? -15 : -14);
            boolean sign = SIGNS.indexOf(oneByte) >= 0;
            Check.due("sign " + oneByte, read("bar t" + (char) oneByte + "1"), sign ? 0 : -15);
            Check.due("sign " + oneByte + " at the end", read("bar t" + (char) oneByte), sign ? -16 : -15);
        }
    }

    /** Four of ( and ! one within the other, in every mixture; a fifth of either is the FAULT. */
    private static void withinFourOthers() {
        Check.sentence("Terms 2", "A ( or ! within 4 others is none.");
        for (int deep = 0; deep <= 4; deep++) {
            for (int mixture = 0; mixture < 1 << deep; mixture++) {
                String opened = opened(deep, mixture);
                String closed = ")".repeat(Integer.bitCount(mixture));
                stands("bar " + opened + "t=1" + closed);
                stands("bar " + opened + "t=1" + closed + "&" + opened + "t=1" + closed + "|" + opened + "t=2" + closed);
                if (deep == 4) {
                    faultAt("bar " + opened + "(t=1)" + closed, 8);
                    faultAt("bar " + opened + "!t=1" + closed, 8);
                }
            }
        }
        faultAt("bar ((((t=1&!t=2))))", 12);
        faultAt("bar ((((t=1|(t=2)))))", 12);
        faultAt("bar (((!t=1&(t=1|!t=2))))", 17);
        stands("bar (((!t=1&(t=1|t=2)&!i=1)))");
        stands("bar !!!!t=1&!!!!t=1|!!!!t=1;bar !!!!t=1");
        stands("bar !((!t=1)&(!t=1))&!!!!t=2");
    }

    private static String opened(int deep, int mixture) {
        StringBuilder text = new StringBuilder();
        for (int i = 0; i < deep; i++) {
            text.append((mixture >> i & 1) == 1 ? '(' : '!');
        }
        return text.toString();
    }

    private static void aLawOfHundredBytes() {
        Check.sentence("Terms 2", "texts read from THE TEXT (bytes, 100 at most)");
        String hundred = "bar t=10" + "|w=1".repeat(23);
        Check.due("bytes", hundred.length(), 100);
        PencilStrikes x = Check.with("amw1;bmp1", hundred);
        Check.due("its last TEST counts", x.barred(0, 0, 0), 2);
        String most = "sense;bar t=1" + "&!w=1&v=1".repeat(9) + ";give";
        Check.due("bytes", most.length(), 99);
        Check.due("99 bytes", read(most), 0);
        String ninetyNine = "bar t=1" + "|w=1".repeat(23);
        Check.due("bytes", ninetyNine.length(), 99);
        Check.due("ends too early at 100", read(ninetyNine + "&"), -110);
        Check.due("the 100th byte is the FAULT", read(ninetyNine + "?"), -109);
        Check.due("ends too early at 99", read(hundred.substring(0, 99)), -109);
    }

    private static void aFaultLeavesNothing() {
        Check.sentence("Promise 3", "-10 less the FAULT: what was read till then counts for no LAW");
        for (String ahead : new String[] {"sense;x", "give;x", "most 0;x", "bar t>0;x", "bar t=1&x", "bar t=1|x",
            "bar !x", "sense;give;most 0;bar v=1|v=1|v=1;?"}) {
            PencilStrikes x = new PencilStrikes();
            Check.bargain(x, "amnw1f3");
            Check.law(x, ahead);
            Check.due("law", Check.law(x, "most 3"), 0);
            Check.due("lawful after " + ahead, x.lawful(0, 0, 0), 1);
            Check.due("no sense after " + ahead, x.good(0, 0, 0, -1), 3);
            Check.due("law", Check.law(x, "bar t=2"), 1);
            Check.due("no most, no give after " + ahead, x.good(0, 0, 1, -1), 4);
        }
        for (String ahead : new String[] {"sense", "give", "most 0", "bar t>0", "sense;give;most 0;bar v=1"}) {
            PencilStrikes x = new PencilStrikes();
            Check.bargain(x, "amnw1f3");
            Check.due("law", Check.law(x, ahead), 0);
            Check.due("law", Check.law(x, "most 30"), 1);
            Check.due("a LAW is as its own text tells, after " + ahead, x.good(0, 0, 1, -1), 4);
        }
    }

    private static void barredBy(String bargain, String expression, int want) {
        PencilStrikes x = Check.with(bargain, "bar " + expression);
        Check.due(bargain + " barred by " + expression, x.barred(0, 0, 0), want);
        Check.due(bargain + " lawful by " + expression, x.lawful(0, 0, 0), want == 0 ? 1 : 0);
    }

    private static void testsAtTheirNumbers() {
        Check.sentence("Terms 2", "a letter, < or = or >, a number: w whose, v whether he must, n whether NOT, t THING (of "
            + "PAY 10 and its figure), i FAR, f LONG of the DUTY");
        atItsNumber("amw0i0f0", 0, 1, 0, 0, 0, 0);
        atItsNumber("bynw9i9f9", 1, 0, 1, 9, 9, 9);
        atItsNumber("amnw5", 0, 1, 1, 5, 10, 10);
        atItsNumber("byp0", 1, 0, 0, 10, 0, 0);
        atItsNumber("amp9", 0, 1, 0, 19, 0, 0);
        barredBy("amw1", "t<999", 1);
        barredBy("amw1", "t>999", 0);
        barredBy("amw1", "w<0", 0);
        barredBy("amw1", "w<000", 0);
        barredBy("amw1", "t=001", 1);
        barredBy("amw1", "t=010", 0);
        barredBy("amw1", "t=100", 0);
    }

    private static void atItsNumber(String bargain, int... values) {
        for (int i = 0; i < values.length; i++) {
            for (int number = Math.max(0, values[i] - 1); number <= values[i] + 1; number++) {
                String test = LETTERS.charAt(i) + "";
                barredBy(bargain, test + "<" + number, values[i] < number ? 1 : 0);
                barredBy(bargain, test + "=" + number, values[i] == number ? 1 : 0);
                barredBy(bargain, test + ">" + number, values[i] > number ? 1 : 0);
            }
        }
    }

    private static void paidToWhoseItIs() {
        Check.sentence("Terms 2", "p what is PAID to whose it is (figures of all PAY DUTIES of the other one that he must, "
            + "together)");
        barredBy("amw1", "p=0", 1);
        barredBy("amw1", "p>0", 0);
        barredBy("amw1", "p<1", 1);
        barredBy("amp9", "p=0", 1);
        barredBy("amp9;byw1", "p=9", 2);
        barredBy("amp9;byw1", "p>8&p<10", 2);
        barredBy("amp9;amp9;byp1", "p=18", 4);
        barredBy("amp9;amp9;byp1", "p=0", 3);
        barredBy("amp9;ayp8;byp1", "p=9", 4);
        barredBy("ayp8;bmw1", "p>0", 0);
        barredBy("amp0;bmp0", "p>0", 0);
        barredBy("amp2;bmp3", "w=0&p=3", 1);
        barredBy("amp2;bmp3", "w=1&p=2", 2);
        barredBy("amw9;bmw9", "p>0", 0);
        PencilStrikes x = Check.with("amp2;bmp3;amp4", "bar p=6");
        Check.due("of what is left after nothing", x.barred(0, 0, 0), 2);
        Check.due("what is struck is not PAID", x.barred(0, 0b1111, 0), 0);
        Check.due("what is struck is not PAID", x.barred(0, 0b11110000000, 0), 0);
    }

    private static void barsOfADuty() {
        Check.sentence("Terms 2", "no E of a bar holds for a DUTY");
        lawful("bar t=1", "amw2,w3&w4", 1);
        lawful("bar t=1", "amw1,w3&w4", 0);
        lawful("bar t=1", "amw2,w3&w1", 0);
        lawful("bar t=1&t=2", "amw1&w2", 1);
        lawful("bar t=1|t=2", "amw3&w2", 0);
        lawful("bar t=9;bar t=2", "amw1&w2", 0);
        lawful("bar t=2;bar t=9", "amw1&w2", 0);
        lawful("bar t=8;bar t=9", "amw1&w2", 1);
        lawful("bar t=8;bar t=9;bar t=8;bar t=9;bar t=8;bar t=9;bar t=8;bar w=0", "amw1", 0);
    }

    private static void joinedTests() {
        Check.sentence("Terms 2", "E: T or T|E. T: F or F&T. F: !F, (E), or a TEST");
        // w=0 holds for the first two, t=1 for the first and the third
        String four = "amw1&w2;bmw1&w2";
        barredBy(four, "w=0", 0b0011);
        barredBy(four, "t=1", 0b0101);
        barredBy(four, "w=0&t=1", 0b0001);
        barredBy(four, "w=0|t=1", 0b0111);
        barredBy(four, "!w=0", 0b1100);
        barredBy(four, "!!w=0", 0b0011);
        barredBy(four, "!!!w=0", 0b1100);
        barredBy(four, "!!!!w=0", 0b0011);
        barredBy(four, "((((w=0))))", 0b0011);
        barredBy(four, "!w=0&t=1", 0b0100);
        barredBy(four, "!(w=0&t=1)", 0b1110);
        barredBy(four, "!(w=0|t=1)", 0b1000);
        barredBy(four, "!(!w=0|!t=1)", 0b0001);
        barredBy(four, "!w=0|t=1", 0b1101);
        barredBy(four, "w=0|t=1&!t=1", 0b0011);
        barredBy(four, "(w=0|t=1)&!t=1", 0b0010);
        barredBy(four, "t=1&!t=1|w=0", 0b0011);
        barredBy(four, "w=0&t=1|!w=0&!t=1", 0b1001);
        barredBy(four, "w=0&t=1&!w=0", 0);
        barredBy(four, "w=1&t=2|w=0&t=2|w=0&t=1", 0b1011);
        barredBy(four, "w=1&(t=2|w=0&(t=2|w=0))", 0b1000);
        barredBy(four, "w=1&(t=2|!(w=0&!t=2))", 0b1100);
        PencilStrikes x = Check.with(four, "bar w=0&t=1;bar w=1&t=2;bar t=9");
        Check.due("of several bars together", x.barred(0, 0, 0), 0b1001);
    }

    private static void lawful(String law, String bargain, int want) {
        PencilStrikes x = Check.with(bargain, law);
        Check.due(bargain + " lawful by " + law, x.lawful(0, 0, 0), want);
        Check.due(bargain + " good by " + law, x.let(0, 0, 0) == 1 && x.next(0, 0, 0, -1) == 0 ? 1 : 0, want);
    }

    private static void giveOfBoth() {
        Check.sentence("Terms 2", "with give: both have a DUTY that they must, no NOT");
        String[] gives = {"mw1", "mp0", "mp9", "mw0f0"};
        String[] givesNot = {"yw1", "yp9", "mnw1", "ynw1"};
        for (String one : gives) {
            lawful("give", "a" + one + ";b" + one, 1);
            lawful("give", "b" + one + ";a" + one, 1);
            lawful("give", "a" + one, 0);
            lawful("give", "b" + one, 0);
            lawful("give", "a" + one + ";a" + one, 0);
            for (String other : givesNot) {
                lawful("give", "a" + one + ";b" + other, 0);
                lawful("give", "b" + one + ";a" + other, 0);
                lawful("give", "a" + other + ";b" + one, 0);
                lawful("give", "a" + other, 0);
            }
        }
        lawful("give", "bmnw1;amw1;bmw1", 1);
        lawful("give", "amw1&w2;bmp1", 1);
        lawful("most 99", "amw1", 1);
    }

    private static void mostAtMost() {
        Check.sentence("Terms 2", "with most: LONGS of all NOT DUTIES together are n of each most at most");
        for (int lasting = 0; lasting <= 9; lasting++) {
            lawful("most " + lasting, "amnw1f" + lasting, 1);
            lawful("most 00" + lasting, "bynw1f" + lasting, 1);
            if (lasting > 0) {
                lawful("most " + (lasting - 1), "amnw1f" + lasting, 0);
                lawful("most " + (lasting - 1), "bynw1f" + lasting, 0);
            }
        }
        lawful("most 0", "amw1f9;bmp9;ayw1", 1);
        lawful("most 9", "amnw1", 0);
        lawful("most 10", "amnw1", 1);
        lawful("most 49", "amnw1,w2,w3,w4,w5", 0);
        lawful("most 50", "amnw1,w2,w3,w4,w5", 1);
        lawful("most 999", "amnw1,w2,w3,w4,w5", 1);
        lawful("most 11", "amnw1f3;bynw1f9", 0);
        lawful("most 12", "amnw1f3;bynw1f9", 1);
        lawful("most 12;most 11", "amnw1f3;bynw1f9", 0);
        lawful("most 11;most 12", "amnw1f3;bynw1f9", 0);
        lawful("most 12;most 12", "amnw1f3;bynw1f9", 1);
        lawful("most 0;most 999", "amnw1f1", 0);
        lawful("most 999;most 0", "amnw1f0", 1);
        lawful("most 3", "amnw1f3;bmw1f9", 1);
        PencilStrikes x = Check.with("amnw1f9", "most 8");
        Check.due("of what is left: the NOT is struck", x.lawful(0, 0b100, 0), 1);
        Check.due("of what is left: LONG is 10 then", x.lawful(0, 0b10000, 0), 0);
    }
}
