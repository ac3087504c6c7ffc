/** What the tests share: a due answer, the sentence it belongs to, and texts put into an object. */
final class Check {
    private static int wrong = 0;
    private static int looked = 0;
    private static int sentences = 0;
    private static String told = "";

    private Check() { }

    static void due(String call, long got, long want) {
        looked++;
        if (got != want) {
            wrong++;
            System.out.println(told + call + " answered " + got + ", due is " + want);
        }
    }

    static void same(String call, String got, String want) {
        due(call + ": " + got + " for " + want + ": the same", got.equals(want) ? 1 : 0, 1);
    }

    /** What is looked at from here on belongs to this sentence of the document. */
    static void sentence(String where, String words) {
        sentences++;
        told = where + " \"" + words + "\": ";
    }

    /** Four bytes a call, as an object is used for 512 calls at most. */
    static void lay(PencilStrikes x, String text) {
        for (int i = 0; i < text.length(); i += 4) {
            int n = Math.min(4, text.length() - i);
            int bytes = 0;
            for (int k = 0; k < n; k++) {
                bytes = bytes << 8 | text.charAt(i + k);
            }
            x.feed(bytes, n);
        }
    }

    static int bargain(PencilStrikes x, String text) {
        lay(x, text);
        return x.text(0);
    }

    static int law(PencilStrikes x, String text) {
        lay(x, text);
        return x.text(1);
    }

    /** An object with one BARGAIN and one LAW. */
    static PencilStrikes with(String bargain, String law) {
        PencilStrikes x = new PencilStrikes();
        due("bargain " + bargain, bargain(x, bargain), 0);
        due("law " + law, law(x, law), 0);
        return x;
    }

    /** A DUTY as one number. */
    static long duty(int whose, int must, int not, int thing, int far, int lasting) {
        long number = 0;
        for (int digit : new int[] {whose, must, not, thing, far, lasting}) {
            number = number * 32 + digit;
        }
        return number;
    }

    /** A set that strikes the WORDS at these places. */
    static int bits(int... places) {
        int set = 0;
        for (int place : places) {
            set |= 1 << place;
        }
        return set;
    }

    static void end() {
        String of = sentences > 0 ? " to " + sentences + " sentences" : "";
        System.out.println(looked + " answers" + of + " looked at, " + wrong + " not as due");
        if (wrong != 0) {
            System.exit(1);
        }
    }
}
