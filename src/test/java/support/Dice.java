/** Numbers, bargains and laws that look thrown, but are the same each time. */
final class Dice {
    private static final int[] EDGES = {Integer.MIN_VALUE, Integer.MIN_VALUE + 1, -2, -1, 60, 61, 4095, 4096, 65536,
        Integer.MAX_VALUE - 1, Integer.MAX_VALUE};
    private long seed;

    Dice(long seed) {
        this.seed = seed * 2654435761L + 12345;
    }

    int below(int n) {
        seed = seed * 6364136223846793005L + 1442695040888963407L;
        return (int) ((seed >>> 33) % n);
    }

    boolean oneIn(int n) {
        return below(n) == 0;
    }

    String oneOf(String letters) {
        return String.valueOf(letters.charAt(below(letters.length())));
    }

    /** Mostly from low to high, at times far off. */
    int number(int low, int high) {
        return oneIn(12) ? EDGES[below(EDGES.length)] : low + below(high - low + 1);
    }

    long item() {
        long high = oneIn(2) ? 0 : (long) below(Integer.MAX_VALUE) << 33;
        return oneIn(3) ? number(-3, 70) : high ^ (long) below(Integer.MAX_VALUE) << below(3) * 8;
    }

    String bargain() {
        if (oneIn(6)) {
            return wordsAtRandom();
        }
        StringBuilder text = new StringBuilder(clause());
        while (!oneIn(3)) {
            String more = clause();
            if (words(text) + 1 + words(more) > 12 && !oneIn(10)) {
                break;
            }
            text.append(';').append(more);
        }
        if (oneIn(8)) {
            text.insert(below(text.length() + 1), oneOf("abmynwifp&,;0123456789x "));
        }
        return text.toString();
    }

    private static int words(CharSequence text) {
        return (int) text.chars().filter(c -> c < '0' || c > '9').count();
    }

    private String wordsAtRandom() {
        StringBuilder text = new StringBuilder();
        for (int words = below(14); words > 0; words--) {
            String letter = oneOf("abmynwifp&,;");
            text.append(letter).append("wifp".contains(letter) ? oneOf("0123456789") : "");
        }
        return text.toString();
    }

    private String clause() {
        StringBuilder text = new StringBuilder(oneOf("ab")).append(oneOf("mmy"));
        if (oneIn(4)) {
            return text.append('p').append(below(10)).toString();
        }
        text.append(oneIn(2) ? "n" : "").append('w').append(below(3));
        while (oneIn(3)) {
            text.append(",w").append(below(3));
        }
        text.append(oneIn(3) ? "&w" + below(3) : "");
        text.append(oneIn(3) ? "i" + below(10) : "").append(oneIn(2) ? "f" + below(10) : "");
        return text.toString();
    }

    String law() {
        StringBuilder text = new StringBuilder(lawClause());
        while (oneIn(2)) {
            text.append(';').append(lawClause());
        }
        if (oneIn(6)) {
            text.insert(below(text.length() + 1), oneOf("!()&|;<=>wvntifp0123456789 bgmsx"));
        }
        if (oneIn(8)) {
            text.deleteCharAt(below(text.length()));
        }
        if (oneIn(12)) {
            text.setLength(below(text.length() + 1));
        }
        if (oneIn(20)) {
            text.append(";give;give;give;give;give;give");
        }
        return text.toString();
    }

    private String lawClause() {
        switch (below(6)) {
            case 0: return "give";
            case 1: return "most " + (oneIn(2) ? below(60) : "0" + below(60));
            case 2: return "sense";
            default: return "bar " + either(below(6));
        }
    }

    private String either(int deep) {
        StringBuilder text = new StringBuilder(part(deep));
        while (oneIn(3)) {
            text.append(oneOf("|&")).append(part(deep));
        }
        return text.toString();
    }

    private String part(int deep) {
        if (deep > 0 && oneIn(3)) {
            return "!" + part(deep - 1);
        }
        if (deep > 0 && oneIn(2)) {
            return "(" + either(deep - 1) + ")";
        }
        String letter = oneOf("wvntifp");
        int most = letter.equals("w") || letter.equals("v") || letter.equals("n") ? 2 : letter.equals("t") ? 4 : 12;
        return letter + oneOf("<=>") + below(most);
    }
}
