/** What an object tells of itself when it is asked, in some seventy calls; no call of these may change anything. */
final class State {
    private State() { }

    static String of(PencilStrikes x) {
        StringBuilder told = new StringBuilder();
        for (int what = 0; what < 4; what++) {
            told.append(" count ").append(x.count(what));
        }
        for (int i = 0; i < 5; i++) {
            told.append(" trace ").append(x.trace(i));
        }
        for (int b = 0; b < 3; b++) {
            told.append(" words ").append(x.word(b, -1)).append(',').append(x.word(b, 2));
            told.append(" means ").append(x.means(b, 0, -1)).append(',').append(x.means(b, 0, 0));
            told.append(" cost ").append(x.cost(b, 0, 0)).append(',').append(x.cost(b, 0, 1));
            for (int law = 0; law < 3; law++) {
                told.append(" law ").append(x.lawful(b, 0, law)).append(',').append(x.good(0, b, law, -1));
            }
        }
        for (int tape = 0; tape < 6; tape++) {
            told.append(" tape");
            for (int i = 0; i < 4; i++) {
                told.append(' ').append(x.read(tape, i));
            }
        }
        return told.toString();
    }

    /** Two BARGAINS of all THINGS, two LAWS, an act, rows of all sorts but shorts and nothing, six bytes of a LAW. */
    static PencilStrikes filled() {
        PencilStrikes x = new PencilStrikes();
        Check.bargain(x, "amnw0,w1&w2i2f3");
        Check.bargain(x, "bmw3,w4f9;byp1");
        Check.law(x, "most 20;bar t=2");
        Check.law(x, "sense");
        x.price(0, 7);
        x.act(4, 1, 3);
        int[] sorts = {0, 1, 2, 3, 4};
        for (int tape = 0; tape < sorts.length; tape++) {
            x.tape(tape, sorts[tape], 3);
            x.item(tape, tape % 3, 12);
        }
        Check.lay(x, "give;s");
        return x;
    }
}
