/** Promises 1 to 5, and what the terms say of texts and FAULTS: sentence by sentence, what each says of its bounds. */
public final class BoundsOfTextsTest {
    private static final int MAX = Integer.MAX_VALUE, MIN = Integer.MIN_VALUE;
    private static final String BARE = "abmyn&,;", FIGURED = "wifp";
    private static final long NO = PencilStrikes.NO;

    public static void main(String[] args) {
        aNewObject();
        feedsBad();
        feedsLowestBytes();
        feedsFull();
        textsNone();
        textsFull();
        textIsEmptyThen();
        wordsOfABargain();
        wordsTwelveAtMost();
        bargainEndsTooEarly();
        endIsThisTextsOwn();
        bargainNeedNotRead();
        wordsNone();
        wordsFigures();
        pricesBounds();
        Check.end();
    }

    private static String sign(int oneByte) {
        return String.valueOf((char) oneByte);
    }

    private static void aNewObject() {
        Check.sentence("Promise 1", "No BARGAINS, no LAWS.");
        PencilStrikes full = Check.with("amw1", "give");
        full.price(0, 9);
        full.tape(0, 1, 5);
        full.act(0, 0, 0);
        full.feed('x', 1);
        PencilStrikes x = new PencilStrikes();
        for (int what = 0; what < 4; what++) {
            Check.due("count(" + what + ")", x.count(what), 0);
        }
        Check.due("word", x.word(0, -1), -1);
        Check.due("means", x.means(0, 0, -1), NO);
        Check.due("cost", x.cost(0, 0, 0), NO);
        Check.due("plain", x.plain(0), -1);
        Check.due("alone", x.alone(0, 0), -1);
        Check.due("bargain 0 comes first", Check.bargain(x, "amw0f1"), 0);
        Check.due("lawful", x.lawful(0, 0, 0), -1);
        Check.due("good", x.good(0, 0, 0, -1), -1);
        Check.due("saves", x.saves(0, 0), -1);
        Check.due("law 0 comes first", Check.law(x, "most 0"), 0);
        Check.due("PRICES are 5 at first", x.cost(0, 0, 0), 5);
        Check.due("TAPES hold nothing at first", x.item(0, 0, 1), -11);
        Check.due("no TRACE", x.trace(0), -1);
    }

    private static void feedsBad() {
        Check.sentence("Promise 2", "(n 0 .. 4) .. BAD");
        PencilStrikes x = new PencilStrikes();
        for (int n : new int[] {-1, 5, -2, 6, 8, 99, 101, MAX, MIN}) {
            Check.due("feed(97, " + n + ")", x.feed(97, n), -2);
        }
        Check.due("nothing has come", x.count(2), 0);
        Check.due("n 0 of any number", x.feed(MIN, 0), 0);
        Check.due("n 4", x.feed(0, 4), 4);
        Check.due("n 0 behind four", x.feed(0, 0), 4);
    }

    private static void feedsLowestBytes() {
        Check.sentence("Promise 2", "The n lowest bytes of a number, the highest first, come behind THE TEXT's");
        int bytes = 'p' << 24 | 'a' << 16 | 'b' << 8 | 'w';
        String told = "pabw";
        for (int n = 1; n <= 4; n++) {
            PencilStrikes x = new PencilStrikes();
            Check.due("feed n " + n, x.feed(bytes, n), n);
            x.feed('1', 1);
            String row = told.substring(4 - n) + "1";
            // p takes a figure, and a is none
            Check.due("read as " + row, x.text(0), n == 4 ? -11 : 0);
        }
        PencilStrikes x = new PencilStrikes();
        x.feed(0x80000000 | 'a', 1);
        x.feed(0xffffff00 | 'm', 1);
        x.feed(0xffff0000 | 'w' << 8 | '1', 2);
        Check.due("a number below 0", x.text(0), 0);
        Check.due("amw1", x.means(0, 0, 0), Check.duty(0, 1, 0, 1, 10, 10));
        x.feed('a' << 24 | 200, 4);
        Check.due("bytes of 0 come, too", x.text(0), -11);
        x.feed(-1, 4);
        Check.due("a byte of 255 is no WORD", x.text(0), -10);
    }

    private static void feedsFull() {
        Check.sentence("Promise 2", "FULL: more than 100.");
        for (int size = 95; size <= 100; size++) {
            for (int n = 0; n <= 4; n++) {
                PencilStrikes x = textOf(size);
                int then = size + n > 100 ? size : size + n;
                Check.due(n + " behind " + size, x.feed(0x61616161, n), size + n > 100 ? -4 : size + n);
                Check.due("bytes then", x.count(2), then);
                Check.due("13th WORD of a row of a", x.text(0), -22);
            }
        }
        PencilStrikes x = textOf(100);
        Check.due("none behind 100", x.feed(1, 0), 100);
        Check.due("BAD is named ahead of FULL", x.feed(1, 5), -2);
        Check.due("BAD is named ahead of FULL", x.feed(1, -1), -2);
        Check.due("BAD is named ahead of FULL", x.feed(1, MAX), -2);
        PencilStrikes y = new PencilStrikes();
        Check.lay(y, "give;give;give;give;give;give;give;most 0000000000000000000000000000000000000000000000000000000000");
        Check.due("98 bytes", y.count(2), 98);
        Check.due("three more would be too many, none of them comes", y.feed(0, 3), -4);
        Check.due("the FAULT stands where it stood", y.text(1), -10 - 43);
    }

    private static PencilStrikes textOf(int size) {
        PencilStrikes x = new PencilStrikes();
        Check.lay(x, "a".repeat(size));
        Check.due("bytes", x.count(2), size);
        return x;
    }

    private static void textsNone() {
        Check.sentence("Promise 3", "NONE: what; .. (THE TEXT stays with both)");
        for (int what : new int[] {-1, 2, 3, MAX, MIN}) {
            PencilStrikes x = new PencilStrikes();
            Check.due("text(" + what + ") of none", x.text(what), -1);
            Check.lay(x, "amw7");
            Check.due("text(" + what + ")", x.text(what), -1);
            Check.due("its bytes", x.count(2), 4);
            Check.due("bargains", x.count(0), 0);
            Check.due("laws", x.count(1), 0);
            Check.due("it can be read yet", x.text(0), 0);
            Check.due("as it was", x.word(0, 2), 11907);
        }
        PencilStrikes x = fullOfTexts();
        for (int what : new int[] {-1, 2, 3, MAX, MIN}) {
            Check.due("NONE is named ahead of FULL", x.text(what), -1);
        }
    }

    private static PencilStrikes fullOfTexts() {
        PencilStrikes x = new PencilStrikes();
        for (int i = 0; i < 6; i++) {
            Check.due("BARGAINS are numbered 0 .. 5", Check.bargain(x, "amw" + i), i);
        }
        for (int i = 0; i < 5; i++) {
            Check.due("LAWS are numbered 0 .. 4", Check.law(x, "bar t=" + i), i);
        }
        return x;
    }

    private static void textsFull() {
        Check.sentence("Promise 3", "FULL (THE TEXT stays with both)");
        PencilStrikes x = fullOfTexts();
        for (String text : new String[] {"", "amw9", "give", "?"}) {
            Check.lay(x, text);
            int size = x.count(2);
            Check.due("FULL, whatever stands there: " + text, x.text(0), -4);
            Check.due("FULL, whatever stands there: " + text, x.text(1), -4);
            Check.due("THE TEXT stays", x.count(2), size);
        }
        Check.due("bargains", x.count(0), 6);
        Check.due("laws", x.count(1), 5);
        for (int i = 0; i < 6; i++) {
            Check.due("bargain " + i, x.word(i, 2), 11900 + i);
            Check.due("law " + i, x.barred(i, 0, i % 5), i < 5 ? 1 : 0);
        }
        PencilStrikes y = new PencilStrikes();
        for (int i = 0; i < 6; i++) {
            Check.bargain(y, "a");
        }
        Check.due("a seventh", Check.bargain(y, "give"), -4);
        Check.due("the same text as a LAW", y.text(1), 0);
        PencilStrikes z = new PencilStrikes();
        for (int i = 0; i < 5; i++) {
            Check.law(z, "give");
        }
        Check.due("a sixth", Check.law(z, "am"), -4);
        Check.due("the same text as a BARGAIN", z.text(0), 0);
        Check.due("its words", z.word(0, -1), 2);
    }

    private static void textIsEmptyThen() {
        Check.sentence("Promise 3", "THE TEXT, which is empty then .. -10 less the FAULT (THE TEXT is empty)");
        PencilStrikes x = new PencilStrikes();
        Check.due("bargain", Check.bargain(x, "am"), 0);
        Check.due("empty", x.count(2), 0);
        Check.due("law", Check.law(x, "give"), 0);
        Check.due("empty", x.count(2), 0);
        Check.due("no bargain", Check.bargain(x, "am?"), -12);
        Check.due("empty", x.count(2), 0);
        Check.due("no law", Check.law(x, "give?"), -14);
        Check.due("empty", x.count(2), 0);
        Check.due("the empty text as a BARGAIN", x.text(0), -10);
        Check.due("the empty text as a LAW", x.text(1), -10);
        Check.due("nothing was added", x.count(0), 1);
        Check.due("nothing was added", x.count(1), 1);
        Check.due("the next is the next", Check.bargain(x, "b"), 1);
        Check.due("its WORDS are its own", x.word(1, -1), 1);
        Check.due("the next is the next", Check.law(x, "most 1"), 1);
    }

    private static void wordsOfABargain() {
        Check.sentence("Terms 1", "a or b, m or y, n, w and a figure, i and a figure, f and a figure, p and a figure, "
            + "&, a comma, ;");
        for (int oneByte = 0; oneByte < 256; oneByte++) {
            PencilStrikes x = new PencilStrikes();
            int want = BARE.indexOf(oneByte) >= 0 ? 0 : FIGURED.indexOf(oneByte) >= 0 ? -11 : -10;
            Check.due("byte " + oneByte, Check.bargain(x, sign(oneByte)), want);
            Check.due("byte " + oneByte + " behind a WORD", Check.bargain(x, "n" + sign(oneByte)),
                want == 0 ? 1 : want == -10 ? -11 : -12);
        }
        for (int i = 0; i < FIGURED.length(); i++) {
            String letter = FIGURED.substring(i, i + 1);
            for (int oneByte = 0; oneByte < 256; oneByte++) {
                boolean figure = oneByte >= '0' && oneByte <= '9';
                int got = Check.bargain(new PencilStrikes(), letter + sign(oneByte));
                Check.due(letter + " and byte " + oneByte, got, figure ? 0 : -11);
            }
            Check.due(letter + " and two figures", Check.bargain(new PencilStrikes(), letter + "12"), -12);
        }
    }

    private static void wordsTwelveAtMost() {
        Check.sentence("Terms 1", "WORDS, 1 to 12 of them .. (.. that of a 13th WORD)");
        for (int words = 1; words <= 12; words++) {
            PencilStrikes x = new PencilStrikes();
            Check.due(words + " of one byte", Check.bargain(x, "n".repeat(words)), 0);
            Check.due("how many", x.word(0, -1), words);
            Check.due(words + " of two bytes", Check.bargain(x, "f3".repeat(words)), 1);
            Check.due("how many", x.word(1, -1), words);
        }
        for (String more : new String[] {"n", "w1", "w", "wx", "?", "1", " ", "nn", "w1w2", "n".repeat(88)}) {
            PencilStrikes x = new PencilStrikes();
            Check.due("a 13th: " + more, Check.bargain(x, "n".repeat(12) + more), -22);
            String figured = "w1".repeat(12) + more.substring(0, Math.min(more.length(), 76));
            Check.due("a 13th behind 24 bytes: " + more, Check.bargain(x, figured), -34);
            Check.due("none of them is kept", x.count(0), 0);
        }
        Check.due("100 bytes", Check.bargain(new PencilStrikes(), "p9".repeat(50)), -34);
        Check.due("the 12th is none, no 13th is looked for", Check.bargain(new PencilStrikes(), "n".repeat(11) + "wa"),
            -22);
    }

    private static void bargainEndsTooEarly() {
        Check.sentence("Terms 1", "The FAULT: .. the end of THE TEXT, if it ends too early");
        Check.due("no byte", Check.bargain(new PencilStrikes(), ""), -10);
        for (int words = 0; words < 12; words++) {
            for (int i = 0; i < FIGURED.length(); i++) {
                String text = "i5".repeat(words) + FIGURED.charAt(i);
                Check.due(text, Check.bargain(new PencilStrikes(), text), -10 - text.length());
            }
        }
    }

    private static void endIsThisTextsOwn() {
        Check.sentence("Promise 3", "THE TEXT, which is empty then: its end is that of what came since");
        PencilStrikes x = new PencilStrikes();
        Check.due("w1", Check.bargain(x, "w1"), 0);
        Check.due("w, where a 1 stood behind it before", Check.bargain(x, "w"), -11);
        Check.due("p12", Check.bargain(x, "p12"), -12);
        Check.due("aw, where a 2 stood behind it before", Check.bargain(x, "aw"), -12);
        Check.due("a long one", Check.bargain(x, "aaaaaaaaaaaaa"), -22);
        Check.due("one WORD", Check.bargain(x, "a"), 1);
        Check.due("its WORDS", x.word(1, -1), 1);
        Check.due("a LAW", Check.law(x, "give;most 12"), 0);
        Check.due("a beginning of it", Check.law(x, "give;most "), -20);
        Check.due("a beginning of it", Check.law(x, "give;"), -15);
        Check.due("a beginning of it", Check.law(x, "giv"), -13);
        Check.due("another that is a LAW", Check.law(x, "give;most 1"), 1);
        Check.due("nothing", x.text(1), -10);
        Check.due("nothing", x.text(0), -10);
    }

    private static void bargainNeedNotRead() {
        Check.sentence("Terms 1", "The WORDS need not read.");
        for (String text : new String[] {";", "n", "p1p1", ",,&&", "wowo".replace('o', '0'), "bbbb", ";;;;;;;;;;;;"}) {
            PencilStrikes x = new PencilStrikes();
            Check.due(text, Check.bargain(x, text), 0);
            Check.due("reads " + text, x.reads(0, 0), 0);
        }
    }

    private static void wordsNone() {
        Check.sentence("Promise 4", "i -1 how many WORDS; else the i-th .. NONE.");
        PencilStrikes x = new PencilStrikes();
        Check.bargain(x, "a");
        Check.bargain(x, "w1i2f3p4w5i6f7p8&,;y");
        for (int b = 0; b < 2; b++) {
            int words = b == 0 ? 1 : 12;
            Check.due("how many of " + b, x.word(b, -1), words);
            Check.due("the first of " + b, x.word(b, 0), b == 0 ? 9700 : 11901);
            Check.due("the last of " + b, x.word(b, words - 1), b == 0 ? 9700 : 12100);
            for (int i : new int[] {-2, words, words + 1, 12, 13, MAX, MIN}) {
                Check.due("word(" + b + ", " + i + ")", x.word(b, i), -1);
            }
        }
        for (int b : new int[] {-1, 2, 3, 5, 6, 7, MAX, MIN}) {
            Check.due("word(" + b + ", -1)", x.word(b, -1), -1);
            Check.due("word(" + b + ", 0)", x.word(b, 0), -1);
            Check.due("word(" + b + ", 12)", x.word(b, 12), -1);
        }
    }

    private static void wordsFigures() {
        Check.sentence("Promise 4", "100 times its letter (as a byte), and its figure (0 where there is none)");
        PencilStrikes x = new PencilStrikes();
        Check.bargain(x, BARE);
        for (int i = 0; i < BARE.length(); i++) {
            Check.due("word " + BARE.charAt(i), x.word(0, i), 100 * BARE.charAt(i));
        }
        for (int i = 0; i < FIGURED.length(); i++) {
            StringBuilder text = new StringBuilder();
            for (int figure = 0; figure < 10; figure++) {
                text.append(FIGURED.charAt(i)).append(figure);
            }
            int b = Check.bargain(x, text.toString());
            for (int figure = 0; figure < 10; figure++) {
                Check.due("word " + figure + " of " + text, x.word(b, figure), 100 * FIGURED.charAt(i) + figure);
            }
        }
    }

    private static void pricesBounds() {
        Check.sentence("Promise 5", "PRICE of a THING (0 .. 9) becomes n: what it was. NONE; BAD. (Terms 3: 0 .. 99; "
            + "5 at first)");
        PencilStrikes x = new PencilStrikes();
        for (int thing : new int[] {-1, 10, 11, MAX, MIN}) {
            for (int n : new int[] {0, 5, 99, -1, 100}) {
                Check.due("price(" + thing + ", " + n + "): NONE is named ahead of BAD", x.price(thing, n), -1);
            }
        }
        for (int thing = 0; thing < 10; thing++) {
            for (int n : new int[] {-1, 100, MAX, MIN}) {
                Check.due("price(" + thing + ", " + n + ")", x.price(thing, n), -2);
            }
            Check.due("5 at first", x.price(thing, 0), 5);
            Check.due("0 stands", x.price(thing, 99), 0);
            Check.due("100 is BAD", x.price(thing, 100), -2);
            Check.due("99 stands", x.price(thing, thing), 99);
        }
        for (int thing = 0; thing < 10; thing++) {
            Check.due("each has its own", x.price(thing, 1), thing);
        }
    }
}
