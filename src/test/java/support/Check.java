/** What the tests share: a due answer, and texts put into an object byte by byte. */
final class Check {
    private static int wrong = 0;
    private static int looked = 0;

    private Check() { }

    static void due(String call, long got, long want) {
        looked++;
        if (got != want) {
            wrong++;
            System.out.println(call + " answered " + got + ", due is " + want);
        }
    }

    static void lay(PencilStrikes x, String text) {
        for (int i = 0; i < text.length(); i++) {
            x.feed(text.charAt(i), 1);
        }
    }

    static int bargain(PencilStrikes x, String text) {
        lay(x, text);
        return x.text(0);
    }

    static int law(PencilStrikes x, String text) {
        lay(x, text);
        return x.text(1);
    }

    /** A DUTY as one number. */
    static long duty(int whose, int must, int not, int thing, int far, int lasting) {
        long number = 0;
        for (int digit : new int[] {whose, must, not, thing, far, lasting}) {
            number = number * 32 + digit;
        }
        return number;
    }

    static void end() {
        System.out.println(looked + " answers looked at, " + wrong + " not as due");
        if (wrong != 0) {
            System.exit(1);
        }
    }
}
