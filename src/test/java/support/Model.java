import java.util.ArrayList;
import java.util.Arrays;
import java.util.List;
import java.util.function.IntPredicate;
import java.util.regex.Matcher;
import java.util.regex.Pattern;

/**
 * The document told a second time, slowly and by other means (patterns, texts, lists), so that the class can be
 * held against it. The FAULT of a text is where its longest beginning ends that a pattern could still go on from.
 */
final class Model {
    private static final long NO = Long.MIN_VALUE;
    private static final String CLAUSE = "[ab][my](?:p|n?w(?:,w)*(?:&w)?i?f?)";
    private static final Pattern READS = Pattern.compile(CLAUSE + "(?:;" + CLAUSE + ")*");
    private static final Pattern BARGAIN = Pattern.compile("(?:[abmyn&,;]|[wifp][0-9]){1,12}");
    private static final Pattern LAW = Pattern.compile(lawPattern());
    private static final int[] ABOVE = {-1, 0, 0, 0, 1, 3, 1};

    private final List<Integer> text = new ArrayList<>();
    private final List<List<String>> bargains = new ArrayList<>();
    private final List<String> laws = new ArrayList<>();
    private final int[] prices = {5, 5, 5, 5, 5, 5, 5, 5, 5, 5};
    private final long[][] tapes = new long[6][];
    private final int[] sorts = new int[6];
    private final List<Integer> trace = new ArrayList<>();

    private static String lawPattern() {
        String test = "[wvntifp][<=>][0-9]{1,3}";
        String factor = test;
        for (int nested = 0; nested < 4; nested++) {
            String term = "(?:" + factor + ")(?:&(?:" + factor + "))*";
            factor = test + "|!(?:" + factor + ")|\\((?:" + term + ")(?:\\|(?:" + term + "))*\\)";
        }
        String term = "(?:" + factor + ")(?:&(?:" + factor + "))*";
        String clause = "(?:bar " + term + "(?:\\|" + term + ")*|give|most [0-9]{1,3}|sense)";
        return clause + "(?:;" + clause + "){0,7}";
    }

    private static int fault(Pattern pattern, String told) {
        for (int end = 1; end <= told.length(); end++) {
            Matcher matcher = pattern.matcher(told.substring(0, end));
            if (!matcher.matches() && !matcher.hitEnd()) {
                return end - 1;
            }
        }
        return pattern.matcher(told).matches() ? -1 : told.length();
    }

    int feed(int bytes, int n) {
        if (n < 0 || n > 4) return -2;
        if (text.size() + n > 100) return -4;
        for (int i = n - 1; i >= 0; i--) text.add((bytes >>> (8 * i)) & 0xff);
        return text.size();
    }

    int text(int what) {
        if (what != 0 && what != 1) return -1;
        if ((what == 0 ? bargains.size() : laws.size()) == (what == 0 ? 6 : 5)) return -4;
        StringBuilder told = new StringBuilder();
        for (int b : text) told.append((char) b);
        text.clear();
        int fault = fault(what == 0 ? BARGAIN : LAW, told.toString());
        if (fault >= 0) return -10 - fault;
        if (what == 1) {
            laws.add(told.toString());
            return laws.size() - 1;
        }
        List<String> words = new ArrayList<>();
        Matcher word = Pattern.compile("[^0-9][0-9]?").matcher(told);
        while (word.find()) words.add(word.group());
        bargains.add(words);
        return bargains.size() - 1;
    }

    private List<String> bargain(int b) {
        return b < 0 || b >= bargains.size() ? null : bargains.get(b);
    }

    private String law(int l) {
        return l < 0 || l >= laws.size() ? null : laws.get(l);
    }

    int word(int bargain, int i) {
        List<String> b = bargain(bargain);
        if (b == null || i < -1 || i >= b.size()) return -1;
        if (i == -1) return b.size();
        return b.get(i).charAt(0) * 100 + (b.get(i).length() > 1 ? b.get(i).charAt(1) - 48 : 0);
    }

    int price(int thing, int n) {
        if (thing < 0 || thing > 9) return -1;
        if (n < 0 || n > 99) return -2;
        int was = prices[thing];
        prices[thing] = n;
        return was;
    }

    private static boolean isSet(List<String> b, int set) {
        return set >= 0 && set < 1 << b.size();
    }

    private static List<String> left(List<String> b, int set) {
        List<String> rest = new ArrayList<>();
        for (int i = 0; i < b.size(); i++) if ((set & (1 << i)) == 0) rest.add(b.get(i));
        return rest;
    }

    private static String letters(List<String> words) {
        StringBuilder letters = new StringBuilder();
        for (String word : words) letters.append(word.charAt(0));
        return letters.toString();
    }

    private static boolean readsWell(List<String> b, int set) {
        return READS.matcher(letters(left(b, set))).matches();
    }

    /** DUTIES as rows of six. */
    private static List<int[]> meaning(List<String> b, int set) {
        List<int[]> duties = new ArrayList<>();
        for (String clause : String.join("", left(b, set)).split(";")) {
            int whose = clause.charAt(0) == 'b' ? 1 : 0;
            int must = clause.charAt(1) == 'm' ? 1 : 0;
            int not = clause.contains("n") ? 1 : 0;
            int far = clause.contains("i") ? clause.charAt(clause.indexOf('i') + 1) - '0' : 10;
            int lasting = clause.contains("f") ? clause.charAt(clause.indexOf('f') + 1) - '0' : 10;
            for (int at = 0; at < clause.length(); at++) {
                if (clause.charAt(at) == 'w') {
                    duties.add(new int[] {whose, must, not, clause.charAt(at + 1) - '0', far, lasting});
                } else if (clause.charAt(at) == 'p') {
                    duties.add(new int[] {whose, must, 0, clause.charAt(at + 1) - '0' + 10, 0, 0});
                }
            }
        }
        return duties;
    }

    private static List<Long> numbers(List<int[]> duties) {
        List<Long> numbers = new ArrayList<>();
        for (int[] duty : duties) {
            long number = 0;
            for (int digit : duty) number = number * 32 + digit;
            numbers.add(number);
        }
        return numbers;
    }

    int reads(int bargain, int set) {
        List<String> b = bargain(bargain);
        if (b == null) return -1;
        if (!isSet(b, set)) return -2;
        return readsWell(b, set) ? 1 : 0;
    }

    long means(int bargain, int set, int i) {
        List<String> b = bargain(bargain);
        if (b == null || !isSet(b, set) || !readsWell(b, set)) return NO;
        List<Long> duties = numbers(meaning(b, set));
        if (i < -1 || i >= duties.size()) return NO;
        return i == -1 ? duties.size() : duties.get(i);
    }

    private static int paid(List<int[]> duties, int to) {
        int paid = 0;
        for (int[] d : duties) if (d[0] == 1 - to && d[1] == 1 && d[3] > 9) paid += d[3] - 10;
        return paid;
    }

    /** An E by its outermost |, or else its outermost &, or else what stands ahead of it. */
    private static boolean holds(String e, int[] duty, int paid) {
        for (char join : new char[] {'|', '&'}) {
            int deep = 0;
            for (int i = 0; i < e.length(); i++) {
                if (e.charAt(i) == '(') deep++;
                if (e.charAt(i) == ')') deep--;
                if (deep == 0 && e.charAt(i) == join) {
                    boolean first = holds(e.substring(0, i), duty, paid);
                    boolean rest = holds(e.substring(i + 1), duty, paid);
                    return join == '|' ? first || rest : first && rest;
                }
            }
        }
        if (e.charAt(0) == '!') return !holds(e.substring(1), duty, paid);
        if (e.charAt(0) == '(') return holds(e.substring(1, e.length() - 1), duty, paid);
        int which = "wvntif".indexOf(e.charAt(0));
        int value = which < 0 ? paid : duty[which];
        int number = Integer.parseInt(e.substring(2));
        return Integer.signum(Integer.compare(value, number)) == "<=>".indexOf(e.charAt(1)) - 1;
    }

    private static int barredBits(List<int[]> duties, String law) {
        int bits = 0;
        for (String clause : law.split(";")) {
            for (int i = 0; clause.startsWith("bar ") && i < duties.size(); i++) {
                int[] duty = duties.get(i);
                if (holds(clause.substring(4), duty, paid(duties, duty[0]))) bits |= 1 << i;
            }
        }
        return bits;
    }

    private static boolean isLawful(List<int[]> duties, String law, int added) {
        if (barredBits(duties, law) != 0) return false;
        for (String clause : law.split(";")) {
            if (clause.equals("give")) {
                for (int who = 0; who < 2; who++) {
                    int one = who;
                    if (duties.stream().noneMatch(d -> d[0] == one && d[1] == 1 && d[2] == 0)) return false;
                }
            } else if (clause.startsWith("most")) {
                int longs = duties.stream().filter(d -> d[2] == 1).mapToInt(d -> d[5]).sum();
                if (longs > Integer.parseInt(clause.substring(5)) + added) return false;
            }
        }
        return true;
    }

    int lawful(int bargain, int set, int law) {
        List<String> b = bargain(bargain);
        if (b == null || law(law) == null) return -1;
        if (!isSet(b, set)) return -2;
        return readsWell(b, set) && isLawful(meaning(b, set), law(law), 0) ? 1 : 0;
    }

    int barred(int bargain, int set, int law) {
        List<String> b = bargain(bargain);
        if (b == null || law(law) == null) return -1;
        if (!isSet(b, set)) return -2;
        if (!readsWell(b, set)) return -3;
        return barredBits(meaning(b, set), law(law));
    }

    private static boolean isLet(int kind, List<String> b, int set) {
        String all = letters(b);
        StringBuilder struck = new StringBuilder();
        for (int i = 0; i < b.size(); i++) struck.append((set >> i & 1) == 1 ? '1' : all.charAt(i) == ';' ? ';' : '0');
        StringBuilder fallen = new StringBuilder();
        for (int i = 0; i < b.size(); i++) if ((set >> i & 1) == 1) fallen.append(all.charAt(i));
        switch (kind) {
            case 2: return fallen.toString().matches("[w&,]*");
            case 3:
                for (String run : runs(all, struck.toString())) {
                    if (run.contains("0") && run.contains("1")) return false;
                }
                return true;
            case 4: return fallen.toString().matches("[if]*");
            case 5: return struck.toString().matches("1*[0;]*");
            case 6:
                return readsWell(b, 0) && readsWell(b, set)
                    && numbers(meaning(b, 0)).containsAll(numbers(meaning(b, set)));
            default: return true;
        }
    }

    private static List<String> runs(String all, String struck) {
        List<String> runs = new ArrayList<>();
        int from = 0;
        for (int i = 0; i <= all.length(); i++) {
            if (i == all.length() || all.charAt(i) == ';') {
                runs.add(struck.substring(from, i));
                from = i + 1;
            }
        }
        return runs;
    }

    private static boolean isKind(int kind) {
        return kind >= 0 && kind <= 6;
    }

    int let(int kind, int bargain, int set) {
        List<String> b = bargain(bargain);
        if (!isKind(kind) || b == null) return -1;
        if (!isSet(b, set)) return -2;
        return isLet(kind, b, set) ? 1 : 0;
    }

    private List<Integer> goodOnes(int kind, int bargain, int law) {
        if (!isKind(kind) || bargain(bargain) == null || law(law) == null) return null;
        List<String> b = bargain(bargain);
        String l = law(law);
        boolean sense = Arrays.asList(l.split(";")).contains("sense");
        IntPredicate good = set -> readsWell(b, set) && isLet(kind, b, set) && (!sense || isLet(6, b, set))
            && isLawful(meaning(b, set), l, 0);
        List<Integer> ones = new ArrayList<>();
        for (int set = 0; set < 1 << b.size(); set++) if (good.test(set)) ones.add(set);
        return ones;
    }

    int good(int kind, int bargain, int law, int i) {
        List<Integer> ones = goodOnes(kind, bargain, law);
        if (ones == null || i < -1 || i >= ones.size()) return -1;
        return i == -1 ? ones.size() : ones.get(i);
    }

    int next(int kind, int bargain, int law, int set) {
        List<Integer> ones = goodOnes(kind, bargain, law);
        if (ones == null) return -1;
        if (set != -1 && !isSet(bargain(bargain), set)) return -2;
        for (int one : ones) if (one > set) return one;
        return -5;
    }

    private static int first(List<Integer> ones, java.util.function.ToLongFunction<Integer> weight) {
        return ones.stream().min(java.util.Comparator.comparingLong(weight)
            .thenComparingInt(Integer::bitCount).thenComparingInt(one -> one)).orElse(-5);
    }

    int least(int kind, int bargain, int law) {
        List<Integer> ones = goodOnes(kind, bargain, law);
        return ones == null ? -1 : first(ones, one -> 0);
    }

    int inAll(int kind, int bargain, int law) {
        List<Integer> ones = goodOnes(kind, bargain, law);
        if (ones == null) return -1;
        return ones.stream().reduce((1 << bargain(bargain).size()) - 1, (p, q) -> p & q);
    }

    int plain(int bargain) {
        List<String> b = bargain(bargain);
        if (b == null) return -1;
        if (!readsWell(b, 0)) return -3;
        List<Integer> same = new ArrayList<>();
        for (int set = 0; set < 1 << b.size(); set++) {
            if (readsWell(b, set) && numbers(meaning(b, set)).equals(numbers(meaning(b, 0)))) same.add(set);
        }
        return first(same, one -> -Integer.bitCount(one));
    }

    private long burden(List<int[]> duties, int who) {
        long sum = 0;
        for (int[] d : duties) {
            if (d[0] != who || d[1] != 1) continue;
            if (d[3] >= 10) sum += 10L * (d[3] - 10);
            else sum += (long) prices[d[3]] * d[5] * (d[2] == 1 ? d[4] : 1);
        }
        return sum;
    }

    private long costOf(List<String> b, int set, int who) {
        List<int[]> duties = meaning(b, set);
        return burden(duties, who) - burden(duties, 1 - who) / 2;
    }

    long cost(int bargain, int set, int who) {
        List<String> b = bargain(bargain);
        if (b == null || !isSet(b, set) || who < 0 || who > 1 || !readsWell(b, set)) return NO;
        return costOf(b, set, who);
    }

    int dear(int kind, int bargain, int law, int who) {
        List<Integer> ones = goodOnes(kind, bargain, law);
        if (ones == null || who < 0 || who > 2) return -1;
        List<String> b = bargain(bargain);
        if (who == 2) return first(ones, one -> Math.abs(costOf(b, one, 0) - costOf(b, one, 1)));
        return first(ones, one -> costOf(b, one, who));
    }

    int alone(int kind, int bargain) {
        List<String> b = bargain(bargain);
        if (!isKind(kind) || b == null) return -1;
        if (!readsWell(b, 0)) return -3;
        List<Long> whole = numbers(meaning(b, 0));
        int bits = 0;
        for (int i = 0; i < whole.size(); i++) {
            List<Long> others = new ArrayList<>(whole);
            others.remove(i);
            for (int set = 0; set < 1 << b.size(); set++) {
                if (readsWell(b, set) && isLet(kind, b, set) && numbers(meaning(b, set)).equals(others)) bits |= 1 << i;
            }
        }
        return bits;
    }

    int apart(int kind, int bargain, int law) {
        List<String> b = bargain(bargain);
        if (!isKind(kind) || b == null || law(law) == null) return -1;
        if (!readsWell(b, 0)) return -3;
        int barred = barredBits(meaning(b, 0), law(law));
        int alone = alone(kind, bargain);
        int pairs = 0;
        for (int i = 0; i < 12; i++) {
            for (int j = 0; j < i; j++) {
                boolean both = (barred >> i & 1) == 1 && (barred >> j & 1) == 1;
                if (both && ((alone >> i & 1) == 0 || (alone >> j & 1) == 0)) pairs++;
            }
        }
        return pairs;
    }

    int saves(int bargain, int law) {
        List<String> b = bargain(bargain);
        if (b == null || law(law) == null) return -1;
        for (int added = 0; added <= 60; added++) {
            if (readsWell(b, 0) && isLawful(meaning(b, 0), law(law), added)) return added;
        }
        return -5;
    }

    private boolean isTape(int tape) {
        return tape >= 0 && tape < 6;
    }

    int table(int tape, int i, int kind, int bargain, int law) {
        List<Integer> ones = goodOnes(kind, bargain, law);
        if (!isTape(tape) || ones == null) return -1;
        if (tapes[tape] != null && sorts[tape] != 1) return -12;
        for (int told = 0; told < ones.size(); told++) {
            long place = (long) i + told;
            if (tapes[tape] == null || place < 0 || place >= tapes[tape].length) return 1000 + told;
            if (tapes[tape][(int) place] != ones.get(told)) return told;
        }
        return ones.size();
    }

    // STRIKES told as classes, so that Java's own super runs their bodies
    private class Strike {
        int strikes(int x) { trace.add(10); return x + bargains.size(); }
        int leaves(int x) { trace.add(11); return strikes(x) - laws.size(); }
        int tells(int x) { trace.add(12); return leaves(x) * 2; }
    }

    private class Words extends Strike {
        @Override int strikes(int x) { trace.add(20); return super.strikes(x * 3); }
    }

    private class Items extends Strike {
        @Override int leaves(int x) { trace.add(30); return super.leaves(x) ^ 5; }
    }

    private class Clauses extends Strike {
        @Override int tells(int x) { trace.add(40); return super.tells(x) + strikes(1); }
        @Override int leaves(int x) { trace.add(41); return -super.leaves(x); }
    }

    private class Numbers extends Words {
        @Override int leaves(int x) { trace.add(50); return super.leaves(x) + super.strikes(2); }
    }

    private class All extends Clauses {
        @Override int tells(int x) { trace.add(60); return leaves(x) - super.tells(x); }
        @Override int strikes(int x) { trace.add(61); return super.strikes(x) ^ laws.size(); }
    }

    private class Sense extends Words {
        @Override int tells(int x) { trace.add(70); return super.tells(x - bargains.size()); }
    }

    int act(int kind, int act, int x) {
        trace.clear();
        if (!isKind(kind) || act < 0 || act > 2) return 0;
        Strike[] kinds = {new Strike(), new Words(), new Items(), new Clauses(), new Numbers(), new All(), new Sense()};
        Strike one = kinds[kind];
        return act == 0 ? one.strikes(x) : act == 1 ? one.leaves(x) : one.tells(x);
    }

    int trace(int i) {
        return i < 0 || i >= Math.min(20, trace.size()) ? -1 : trace.get(i);
    }

    int taken(int kind, int k) {
        if (!isKind(k)) return -2;
        if (!isKind(kind)) return -11;
        for (int at = kind; at >= 0; at = ABOVE[at]) if (at == k) return kind;
        return -12;
    }

    int count(int what) {
        int[] counts = {bargains.size(), laws.size(), text.size(), trace.size()};
        return what < 0 || what > 3 ? -2 : counts[what];
    }

    int tape(int tape, int sort, int n) {
        if (!isTape(tape)) return -1;
        if (sort == -1) {
            tapes[tape] = null;
            return 1;
        }
        if (sort < -1 || sort > 4 || n > 60) return -2;
        if (n < 0) return -14;
        tapes[tape] = new long[n];
        sorts[tape] = sort;
        return 1;
    }

    int item(int tape, int i, long v) {
        if (!isTape(tape)) return -1;
        if (tapes[tape] == null) return -11;
        if (i < 0 || i >= tapes[tape].length) return -13;
        int unheld = new int[] {56, 48, 32, 0, 0}[sorts[tape]];
        tapes[tape][i] = sorts[tape] == 4 ? Long.signum(v) * Long.signum(v) : v << unheld >> unheld;
        return 1;
    }

    long read(int tape, int i) {
        if (!isTape(tape) || tapes[tape] == null || i < 0 || i >= tapes[tape].length) return NO;
        return tapes[tape][i];
    }

    int shift(int tape, int i, int other, int j, int n) {
        if (!isTape(tape) || !isTape(other)) return -1;
        if (tapes[tape] == null || tapes[other] == null) return -11;
        if (sorts[tape] != sorts[other]) return -12;
        if (n < 0 || i < 0 || j < 0) return -13;
        if ((long) i + n > tapes[tape].length || (long) j + n > tapes[other].length) return -13;
        long[] before = tapes[tape].clone();
        for (int k = 0; k < n; k++) tapes[other][j + k] = before[i + k];
        return n;
    }
}
