/** Promises 1 to 5: a new object, feed, text, word, price. */
public final class TextsTest {
    public static void main(String[] args) {
        newObject();
        feed();
        bargainFaults();
        lawFaults();
        fullTexts();
        words();
        prices();
        Check.end();
    }

    private static void newObject() {
        PencilStrikes x = new PencilStrikes();
        Check.due("new count(0)", x.count(0), 0);
        Check.due("new count(1)", x.count(1), 0);
        Check.due("new count(2)", x.count(2), 0);
        Check.due("new count(3)", x.count(3), 0);
        Check.due("new reads", x.reads(0, 0), -1);
        Check.due("new trace", x.trace(0), -1);
        Check.due("new read", x.read(0, 0), PencilStrikes.NO);
        PencilStrikes y = new PencilStrikes();
        Check.bargain(x, "amw1");
        Check.due("another object's bargains", y.count(0), 0);
    }

    private static void feed() {
        PencilStrikes x = new PencilStrikes();
        Check.due("feed 5", x.feed(0, 5), -2);
        Check.due("feed -1", x.feed(0, -1), -2);
        Check.due("feed max", x.feed(0, Integer.MAX_VALUE), -2);
        Check.due("feed min", x.feed(0, Integer.MIN_VALUE), -2);
        Check.due("feed 0 bytes", x.feed(-1, 0), 0);
        int amp4 = 'a' << 24 | 'm' << 16 | 'p' << 8 | '4';
        Check.due("feed 4 bytes", x.feed(amp4, 4), 4);
        Check.due("read as amp4", x.text(0), 0);
        Check.due("means amp4", x.means(0, 0, 0), 1062912);
        // of a longer number the lowest bytes alone
        Check.due("feed 3 of 4", x.feed(';' << 24 | 'b' << 16 | 'y' << 8 | 'w', 3), 3);
        Check.due("feed 1 of 4", x.feed(-256 | '7', 1), 4);
        Check.due("read as byw7", x.text(0), 1);
        Check.due("means byw7", x.means(1, 0, 0), Check.duty(1, 0, 0, 7, 10, 10));
        for (int i = 1; i <= 24; i++) {
            Check.due("feed 4", x.feed(-1, 4), 4 * i);
        }
        Check.due("feed to 99", x.feed(0, 3), 99);
        Check.due("feed to 101", x.feed(0, 2), -4);
        Check.due("BAD ahead of FULL", x.feed(0, 5), -2);
        Check.due("still 99", x.count(2), 99);
        Check.due("feed to 100", x.feed(0, 1), 100);
        Check.due("feed none to 100", x.feed(0, 0), 100);
        Check.due("feed to 101", x.feed(0, 1), -4);
        Check.due("bytes of ones", x.text(0), -10);
    }

    private static void bargainFault(String text, int fault) {
        PencilStrikes x = new PencilStrikes();
        Check.due("bargain " + text, Check.bargain(x, text), -10 - fault);
        Check.due("THE TEXT after " + text, x.count(2), 0);
        Check.due("bargains after " + text, x.count(0), 0);
    }

    private static void bargainFaults() {
        bargainFault("", 0);
        bargainFault("w", 1);
        bargainFault("amp", 3);
        bargainFault("amwx", 3);
        bargainFault("amw1f", 5);
        bargainFault("amw12", 4);
        bargainFault("A", 0);
        bargainFault("1", 0);
        bargainFault("am w1", 2);
        bargainFault("ab\u00e1", 2);
        bargainFault("aaaaaaaaaaaaa", 12);
        bargainFault("aaaaaaaaaaaaq", 12);
        bargainFault("aaaaaaaaaaaaw", 12);
        bargainFault("w1w1w1w1w1w1w1w1w1w1w1w1a", 24);
        bargainFault("aaaaaaaaaaaw", 12);
        PencilStrikes x = new PencilStrikes();
        Check.due("12 words", Check.bargain(x, "w1i2f3p4&,;abmyn"), 0);
        Check.due("12 words told", x.word(0, -1), 12);
        Check.due("12 figures", Check.bargain(x, "w0w1w2w3w4w5w6w7w8w9w0w1"), 1);
        Check.due("one word", Check.bargain(x, ";"), 2);
    }

    private static void lawFault(String text, int fault) {
        PencilStrikes x = new PencilStrikes();
        Check.due("law " + text, Check.law(x, text), -10 - fault);
        Check.due("THE TEXT after " + text, x.count(2), 0);
        Check.due("laws after " + text, x.count(1), 0);
    }

    private static void lawStands(String text) {
        Check.due("law " + text, Check.law(new PencilStrikes(), text), 0);
    }

    private static void lawFaults() {
        lawFault("", 0);
        lawFault("x", 0);
        lawFault("gibe", 2);
        lawFault("giv", 3);
        lawFault("given", 4);
        lawFault("give ", 4);
        lawFault("give;", 5);
        lawFault("give;;", 5);
        lawFault("bart=1", 3);
        lawFault("bar  t=1", 4);
        lawFault("bar", 3);
        lawFault("bar ", 4);
        lawFault("bar t", 5);
        lawFault("bar t1", 5);
        lawFault("bar t=", 6);
        lawFault("bar t=x", 6);
        lawFault("bar t=1234", 9);
        lawFault("bar t=1&", 8);
        lawFault("bar t=1&|", 8);
        lawFault("bar t=1|", 8);
        lawFault("bar t=1)", 7);
        lawFault("bar (t=1", 8);
        lawFault("bar (t=1;give", 8);
        lawFault("bar ()", 5);
        lawFault("bar !", 5);
        lawFault("bar !!!!!t=1", 8);
        lawFault("bar !(!(!t=1))", 8);
        lawFault("bar ((((!t=1))))", 8);
        lawFault("bar !!!!(t=1)", 8);
        lawFault("bar t=1 ", 7);
        lawFault("bar a=1", 4);
        lawFault("most", 4);
        lawFault("most x", 5);
        lawFault("most 1234", 8);
        lawFault("sense ", 5);
        lawFault("most 12;sens", 12);
        lawFault("give;give;give;give;give;give;give;give;", 39);
        lawFault("give;give;give;give;give;give;give;give;give", 39);
        lawFault("g\u00e9", 1);
        lawStands("bar !!!!t=1");
        lawStands("bar ((((t=1))))");
        lawStands("bar !(!(t=1))&((t<2)|!p>999)|i=000");
        lawStands("most 0");
        lawStands("most 999;most 007;sense;give;bar w=0&v=1&n=0&t>3&i<4&f=5&p=6");
        lawStands("give;give;give;give;give;give;give;give");
    }

    private static void fullTexts() {
        PencilStrikes x = new PencilStrikes();
        Check.lay(x, "amp1");
        Check.due("text(2)", x.text(2), -1);
        Check.due("text(-1)", x.text(-1), -1);
        Check.due("THE TEXT stays", x.count(2), 4);
        Check.due("text(0)", x.text(0), 0);
        for (int i = 1; i < 6; i++) {
            Check.due("bargain", Check.bargain(x, "amp1"), i);
        }
        Check.due("bargain beyond 5", Check.bargain(x, "amp1"), -4);
        Check.due("THE TEXT stays", x.count(2), 4);
        Check.due("FULL ahead of a fault", Check.bargain(x, "??"), -4);
        Check.due("THE TEXT stays", x.count(2), 6);
        Check.due("as a law", x.text(1), -10);
        for (int i = 0; i < 5; i++) {
            Check.due("law", Check.law(x, "give"), i);
        }
        Check.due("law beyond 4", Check.law(x, "give"), -4);
        Check.due("count(0)", x.count(0), 6);
        Check.due("count(1)", x.count(1), 5);
        Check.due("count(2)", x.count(2), 4);
    }

    private static void words() {
        PencilStrikes x = new PencilStrikes();
        Check.bargain(x, "bynw9&,;i0f5p7");
        int[] want = {'b' * 100, 'y' * 100, 'n' * 100, 'w' * 100 + 9, '&' * 100, ',' * 100, ';' * 100,
            'i' * 100, 'f' * 100 + 5, 'p' * 100 + 7};
        Check.due("word(0, -1)", x.word(0, -1), want.length);
        for (int i = 0; i < want.length; i++) {
            Check.due("word(0, " + i + ")", x.word(0, i), want[i]);
        }
        for (int i : new int[] {-2, 10, 11, Integer.MIN_VALUE, Integer.MAX_VALUE}) {
            Check.due("word(0, " + i + ")", x.word(0, i), -1);
        }
        for (int b : new int[] {-1, 1, 5, 6, Integer.MIN_VALUE, Integer.MAX_VALUE}) {
            Check.due("word(" + b + ", 0)", x.word(b, 0), -1);
            Check.due("word(" + b + ", -1)", x.word(b, -1), -1);
        }
    }

    private static void prices() {
        PencilStrikes x = new PencilStrikes();
        for (int thing = 0; thing < 10; thing++) {
            Check.due("price at first", x.price(thing, 10 * thing), 5);
            Check.due("price then", x.price(thing, 99), 10 * thing);
            Check.due("price 100", x.price(thing, 100), -2);
            Check.due("price -1", x.price(thing, -1), -2);
            Check.due("price stayed", x.price(thing, 0), 99);
        }
        Check.due("price of 10", x.price(10, 0), -1);
        Check.due("price of -1", x.price(-1, 0), -1);
        Check.due("NONE ahead of BAD", x.price(10, 100), -1);
    }
}
