/** Promises 6 to 10: reads, means, lawful, barred, let. */
public final class LeftTest {
    public static void main(String[] args) {
        rowsThatRead();
        setsThatRead();
        meanings();
        lawful();
        barred();
        tests();
        lets();
        letsOfAll();
        letsOfSense();
        Check.end();
    }

    private static void readsAs(String text, int want) {
        PencilStrikes x = new PencilStrikes();
        Check.due("bargain " + text, Check.bargain(x, text), 0);
        Check.due("reads " + text, x.reads(0, 0), want);
    }

    private static void rowsThatRead() {
        for (String text : new String[] {"amw1", "bmw1", "ayw1", "byw0", "amp1", "byp1", "amnw1", "amw1&w2",
            "amw1,w2", "amw1,w2,w3", "amw1,w2&w3", "amw1i2", "amw1f2", "amw1i2f3", "amw1&w2i2f3", "amnw1,w2f3",
            "amw1;bmw2", "amp1;bmp2;amp3", "amw1;bmnw2i3f4", "amw1f2;bmp2"}) {
            readsAs(text, 1);
        }
        for (String text : new String[] {"a", "am", "m", "w1", "p1", ";", "amn", "amnp1", "amp1w1", "amw1p1",
            "amw1w2", "amw1&", "amw1,", "amw1&w2&w3", "amw1&w2,w3", "amw1f1i1", "amw1i1i1", "amw1f1f1", "amp1i1",
            "amp1f1", "ami1", "amw1i1&w2", "amw1,i1", "amw1;", ";amw1", "amw1;;bmw1", "abmw1", "ammw1", "amnnw1",
            "anmw1", "amw1bmw2", "amp1&p2", "amp1,p2", "amw1i1,w2", "maw1"}) {
            readsAs(text, 0);
        }
    }

    private static void setsThatRead() {
        PencilStrikes x = new PencilStrikes();
        Check.bargain(x, "amw1;bmp2");
        // the whole, each of its CLAUSES, and p2 with the first WHO and either VERB
        for (int set = 0; set < 128; set++) {
            boolean reading = set == 0 || set == 0b1111000 || set == 0b0001111 || set == 0b0011110
                || set == 0b0111100;
            Check.due("reads(0, " + set + ")", x.reads(0, set), reading ? 1 : 0);
        }
        Check.due("reads(0, 128)", x.reads(0, 128), -2);
        Check.due("reads(0, -1)", x.reads(0, -1), -2);
        Check.due("reads(0, max)", x.reads(0, Integer.MAX_VALUE), -2);
        Check.due("reads(1, -1)", x.reads(1, -1), -1);
        Check.due("reads(-1, 0)", x.reads(-1, 0), -1);
        Check.due("reads(6, 0)", x.reads(6, 0), -1);
    }

    private static void meanings() {
        PencilStrikes x = new PencilStrikes();
        Check.bargain(x, "bynw1,w2&w9i0f9");
        Check.due("how many", x.means(0, 0, -1), 3);
        Check.due("first", x.means(0, 0, 0), Check.duty(1, 0, 1, 1, 0, 9));
        Check.due("second", x.means(0, 0, 1), Check.duty(1, 0, 1, 2, 0, 9));
        Check.due("third", x.means(0, 0, 2), Check.duty(1, 0, 1, 9, 0, 9));
        Check.due("beyond", x.means(0, 0, 3), PencilStrikes.NO);
        Check.due("-2", x.means(0, 0, -2), PencilStrikes.NO);
        Check.due("no NOT", x.means(0, 4, 0), Check.duty(1, 0, 0, 1, 0, 9));
        Check.due("no FAR", x.means(0, 1 << 8, 0), Check.duty(1, 0, 1, 1, 10, 9));
        Check.due("no LONG", x.means(0, 1 << 9, 2), Check.duty(1, 0, 1, 9, 0, 10));
        Check.due("without w1,", x.means(0, 0b11000, -1), 2);
        Check.due("without w1,", x.means(0, 0b11000, 0), Check.duty(1, 0, 1, 2, 0, 9));
        Check.due("unread", x.means(0, 1, -1), PencilStrikes.NO);
        Check.due("unread", x.means(0, 1, 0), PencilStrikes.NO);
        Check.due("no set", x.means(0, 1024, -1), PencilStrikes.NO);
        Check.due("no set", x.means(0, -1, -1), PencilStrikes.NO);
        Check.due("no bargain", x.means(1, 0, -1), PencilStrikes.NO);
        Check.due("no bargain", x.means(-1, 0, -1), PencilStrikes.NO);
        anotherClause("amw1f2;ayp0;bmp9", 3, 0, Check.duty(0, 1, 0, 1, 10, 2));
        anotherClause("amw1f2;ayp0;bmp9", 3, 1, Check.duty(0, 0, 0, 10, 0, 0));
        anotherClause("amw1f2;ayp0;bmp9", 3, 2, Check.duty(1, 1, 0, 19, 0, 0));
        anotherClause("aynw1;bmp4", 2, 1, Check.duty(1, 1, 0, 14, 0, 0));
        anotherClause("aynw1;bmw2", 2, 1, Check.duty(1, 1, 0, 2, 10, 10));
        anotherClause("amw1i3f1;bmw2", 2, 1, Check.duty(1, 1, 0, 2, 10, 10));
        anotherClause("amw2;bmw1i3f1", 2, 0, Check.duty(0, 1, 0, 2, 10, 10));
        anotherClause("amp2;bmw1i3f1", 2, 0, Check.duty(0, 1, 0, 12, 0, 0));
    }

    private static void anotherClause(String bargain, int many, int i, long want) {
        PencilStrikes x = new PencilStrikes();
        Check.due("bargain " + bargain, Check.bargain(x, bargain), 0);
        Check.due("how many in " + bargain, x.means(0, 0, -1), many);
        Check.due(i + " of " + bargain, x.means(0, 0, i), want);
        Check.due("beyond " + bargain, x.means(0, 0, many), PencilStrikes.NO);
    }

    private static void lawfulBy(String law, String bargain, int want) {
        PencilStrikes x = new PencilStrikes();
        Check.due("law " + law, Check.law(x, law), 0);
        Check.due("bargain " + bargain, Check.bargain(x, bargain), 0);
        Check.due(bargain + " lawful by " + law, x.lawful(0, 0, 0), want);
    }

    private static void lawful() {
        lawfulBy("give", "amw1;bmw1", 1);
        lawfulBy("give", "amw1;bmp0", 1);
        lawfulBy("give", "amw1;amw1", 0);
        lawfulBy("give", "bmw1", 0);
        lawfulBy("give", "amw1;byw1", 0);
        lawfulBy("give", "amnw1;bmw1", 0);
        lawfulBy("give", "amw1;byw1;bmw2", 1);
        lawfulBy("most 10", "amnw1", 1);
        lawfulBy("most 9", "amnw1", 0);
        lawfulBy("most 5", "amnw1,w2f3", 0);
        lawfulBy("most 6", "amnw1,w2f3", 1);
        lawfulBy("most 6", "amnw1f3;bynw1f3", 1);
        lawfulBy("most 5", "amnw1f3;bynw1f3", 0);
        lawfulBy("most 0", "amw1f3;bmp9", 1);
        lawfulBy("most 9;most 3", "amnw1f4", 0);
        lawfulBy("most 3;most 9", "amnw1f4", 0);
        lawfulBy("most 4;most 9", "amnw1f4", 1);
        lawfulBy("bar t=1", "amw2", 1);
        lawfulBy("bar t=1", "amw2;bmw1", 0);
        lawfulBy("bar t=1;bar t=2", "amw2", 0);
        lawfulBy("bar t=1;bar t=2", "amw1", 0);
        lawfulBy("bar t=1;bar t=2", "amw3", 1);
        lawfulBy("sense", "amw1", 1);
        lawfulBy("give", "aw1", 0);
        PencilStrikes x = new PencilStrikes();
        Check.bargain(x, "amw1f2");
        Check.law(x, "sense");
        Check.due("sense looks at sets, not at what is left", x.lawful(0, 8, 0), 1);
        Check.due("unread", x.lawful(0, 1, 0), 0);
        Check.due("BAD set", x.lawful(0, 16, 0), -2);
        Check.due("BAD set", x.lawful(0, -1, 0), -2);
        Check.due("NONE ahead of BAD", x.lawful(0, -1, 1), -1);
        Check.due("NONE bargain", x.lawful(1, 0, 0), -1);
        Check.due("NONE law", x.lawful(0, 0, -1), -1);
    }

    private static void barred() {
        PencilStrikes x = new PencilStrikes();
        Check.bargain(x, "amw1,w2&w3;bmp4");
        Check.law(x, "bar t=2");
        Check.law(x, "bar t=2;give;bar w=1");
        Check.law(x, "give;most 0;sense");
        Check.due("one", x.barred(0, 0, 0), 2);
        Check.due("by two bars", x.barred(0, 0, 1), 10);
        Check.due("no bar", x.barred(0, 0, 2), 0);
        Check.due("places of what is left", x.barred(0, 0b1100, 0), 1);
        Check.due("unread", x.barred(0, 1, 0), -3);
        Check.due("BAD", x.barred(0, 1 << 11, 0), -2);
        Check.due("BAD", x.barred(0, -1, 0), -2);
        Check.due("NONE", x.barred(0, -1, 3), -1);
        Check.due("NONE", x.barred(1, 0, 0), -1);
    }

    private static void bars(String expression, int want) {
        barsOf("amw1;bynw4;bmp5", expression, want);
    }

    private static void barsOf(String bargain, String expression, int want) {
        PencilStrikes x = new PencilStrikes();
        Check.due("bargain " + bargain, Check.bargain(x, bargain), 0);
        Check.due("law " + expression, Check.law(x, "bar " + expression), 0);
        Check.due("bar " + expression, x.barred(0, 0, 0), want);
    }

    private static void tests() {
        bars("w=0", 0b001);
        bars("w=1", 0b110);
        bars("v=1", 0b101);
        bars("v<1", 0b010);
        bars("n=1", 0b010);
        bars("n=0", 0b101);
        bars("t=1", 0b001);
        bars("t=4", 0b010);
        bars("t=15", 0b100);
        bars("t>3", 0b110);
        bars("t<4", 0b001);
        bars("i=10", 0b011);
        bars("i=0", 0b100);
        bars("i<10", 0b100);
        bars("f=10", 0b011);
        bars("f<010", 0b100);
        barsOf("amw1i2f3;bmp5", "i=2", 0b01);
        barsOf("amw1i2f3;bmp5", "i=0", 0b10);
        barsOf("amw1i2f3;bmp5", "f=003", 0b01);
        barsOf("amw1i2f3;bmp5", "f>2", 0b01);
        barsOf("amw1i2f3;bmp5", "f>3", 0b00);
        barsOf("amw1i2f3;bmp5", "f<3", 0b10);
        bars("p=5", 0b001);
        bars("p=0", 0b110);
        bars("p<999", 0b111);
        bars("p>999", 0);
        bars("!w=0", 0b110);
        bars("!!w=0", 0b001);
        bars("w=1&n=1", 0b010);
        bars("w=0|n=1", 0b011);
        bars("w=0|w=1&n=1", 0b011);
        bars("w=1&n=1|w=0", 0b011);
        bars("(w=0|w=1)&n=1", 0b010);
        bars("!w=0&n=0", 0b100);
        bars("!(w=0&n=0)", 0b110);
        bars("!(w=0|n=1)", 0b100);
        bars("n=0&w=1|n=1&w=1|w=2", 0b110);
        bars("w=0&w=1|w=0&w=0&w=0", 0b001);
        bars("!(!(w=1&n=0))", 0b100);
        PencilStrikes x = new PencilStrikes();
        Check.bargain(x, "amp3;byp4;amp2");
        Check.law(x, "bar p=5");
        Check.law(x, "bar p=0");
        Check.law(x, "bar p=4");
        Check.due("what a must pay together", x.barred(0, 0, 0), 0b010);
        Check.due("what b may pay is none", x.barred(0, 0, 1), 0b101);
        Check.due("what b may pay is none", x.barred(0, 0, 2), 0);
    }

    private static void lets() {
        PencilStrikes x = new PencilStrikes();
        Check.bargain(x, "amnw1,w2i1f1;bm");
        int things = 0b111000;
        int numbers = 0b11000000;
        for (int set = 0; set < 2048; set++) {
            Check.due("let(0, 0, " + set + ")", x.let(0, 0, set), 1);
            Check.due("let(1, 0, " + set + ")", x.let(1, 0, set), 1);
            Check.due("let(2, 0, " + set + ")", x.let(2, 0, set), (set & ~things) == 0 ? 1 : 0);
            Check.due("let(4, 0, " + set + ")", x.let(4, 0, set), (set & ~numbers) == 0 ? 1 : 0);
            int first = set & 255;
            int last = set >> 9;
            boolean whole = (first == 0 || first == 255) && (last == 0 || last == 3);
            Check.due("let(3, 0, " + set + ")", x.let(3, 0, set), whole ? 1 : 0);
        }
        Check.bargain(x, "amw1&w2;;p1");
        Check.due("ANDS are items", x.let(2, 1, 0b11000), 1);
        Check.due("ENDS are none", x.let(2, 1, 0b100000), 0);
        Check.due("an END as one likes", x.let(3, 1, 0b0100000), 1);
        Check.due("the other END", x.let(3, 1, 0b1000000), 1);
        Check.due("a run of one", x.let(3, 1, 0b10000000), 1);
        Check.due("a part of a run", x.let(3, 1, 0b00011), 0);
        Check.due("PAY is no item", x.let(2, 1, 0b10000000), 0);
    }

    private static void letsOfAll() {
        PencilStrikes x = new PencilStrikes();
        Check.bargain(x, "amw1;bmp2");
        for (int set = 0; set < 128; set++) {
            boolean upTo = set == 0 || set == 1 || set == 3 || set == 7 || set == 15 || set == 31 || set == 63
                || set == 127;
            Check.due("let(5, 0, " + set + ")", x.let(5, 0, set), upTo ? 1 : 0);
        }
        Check.due("NONE kind", x.let(7, 0, 0), -1);
        Check.due("NONE kind", x.let(-1, 0, 0), -1);
        Check.due("NONE bargain", x.let(0, 1, 0), -1);
        Check.due("NONE ahead of BAD", x.let(7, 0, -1), -1);
        for (int kind = 0; kind < 7; kind++) {
            Check.due("BAD", x.let(kind, 0, 128), -2);
            Check.due("BAD", x.let(kind, 0, -1), -2);
        }
    }

    private static void letsOfSense() {
        PencilStrikes x = new PencilStrikes();
        Check.bargain(x, "amw1,w2f3");
        Check.due("nothing", x.let(6, 0, 0), 1);
        Check.due("w1,", x.let(6, 0, 0b001100), 1);
        Check.due(",w2", x.let(6, 0, 0b011000), 1);
        Check.due("f3", x.let(6, 0, 0b100000), 0);
        Check.due("unread", x.let(6, 0, 0b000100), 0);
        Check.due("all", x.let(6, 0, 0b111111), 0);
        Check.bargain(x, "amw1f1;amw1");
        Check.due("what was there once may be left twice", x.let(6, 1, 0b1000), 1);
        Check.bargain(x, "bmw1;amw1");
        Check.due("another's duty was not there", x.let(6, 2, 0), 1);
        Check.due("b's w1 or a's", x.let(6, 2, 0b1111), 1);
        Check.bargain(x, "abmw1");
        Check.due("the whole does not read", x.let(6, 3, 0b00001), 0);
        Check.due("though what is left does", x.reads(3, 0b00001), 1);
    }
}
