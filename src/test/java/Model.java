import java.math.BigInteger;
import java.util.ArrayList;
import java.util.Arrays;
import java.util.HashSet;
import java.util.LinkedHashSet;
import java.util.List;
import java.util.Set;
import java.util.regex.Matcher;
import java.util.regex.Pattern;

/**
 * A second program of the same document, written as slowly and as near to its words as can be,
 * so that the two can be compared over many runs of calls. Signals are letters here, as in the
 * text: a to d and 0 to 7.
 */
final class Model {
    static final int UNKNOWN = -1, OUTSIDE = -2, STATE = -3, FULL = -4, NONE = -9;

    private static final Pattern WHOLE =
            Pattern.compile("C([1-4])((?:[&|no][a-d0-7]{2}|~[a-d0-7])+)>([a-d0-7]+)", Pattern.DOTALL);
    private static final Pattern GATE = Pattern.compile("[&|no]..|~.");

    /** A gate as it is told, with its delay. */
    private static final class Gate {
        char sign;
        final String signals;
        int delay = 1;

        Gate(char sign, String signals) {
            this.sign = sign;
            this.signals = signals;
        }

        Gate copy() {
            Gate other = new Gate(sign, signals);
            other.delay = delay;
            return other;
        }
    }

    private String text = "";
    private int inputs = 0;
    private String nexts = "";
    private List<Gate> gates = new ArrayList<>();
    /** Paths as an input's letter and the figures of gates. */
    private List<String> paths = new ArrayList<>();
    private final List<int[]> acts = new ArrayList<>();
    private final List<int[]> seen = new ArrayList<>();
    private final List<List<Gate>> kept = new ArrayList<>(Arrays.asList(null, null));
    private BigInteger theSeed = BigInteger.ZERO;

    // ---- the circuit

    int write(int letter) {
        if (letter < 0 || letter > 255) return OUTSIDE;
        if (text.length() == 40) return FULL;
        text += (char) letter;
        return text.length();
    }

    int wipe() {
        int was = text.length();
        text = "";
        return was;
    }

    private static boolean isCircuit(String s) {
        Matcher m = WHOLE.matcher(s);
        if (!m.matches()) return false;
        int n = m.group(1).charAt(0) - '0';
        if (m.group(3).length() != n) return false;
        String known = "abcd".substring(0, n);
        int told = 0;
        Matcher g = GATE.matcher(m.group(2));
        while (g.find()) {
            String one = g.group();
            for (char c : one.substring(1).toCharArray()) if (known.indexOf(c) < 0) return false;
            if (one.length() == 3 && one.charAt(1) == one.charAt(2)) return false;
            known += (char) ('0' + told);
            told++;
        }
        if (told > 8) return false;
        for (char c : m.group(3).toCharArray()) if (known.indexOf(c) < 0) return false;
        return true;
    }

    /** Whether something can come behind it that makes it a circuit: tries what could be missing. */
    private static boolean viable(String s) {
        for (String head : new String[] {"", "C1", "1"})
            for (String signals : new String[] {"", "a", "b", "0", "ab", "a0"})
                for (String more : new String[] {"", "~a"})
                    for (String end : new String[] {"", ">", ">a", ">aa", ">aaa", ">aaaa", "a", "aa", "aaa", "aaaa"})
                        if (isCircuit(s + head + signals + more + end)) return true;
        return false;
    }

    int fault() {
        for (int i = 0; i < text.length(); i++) if (!viable(text.substring(0, i + 1))) return i;
        return isCircuit(text) ? NONE : text.length();
    }

    int circuit() {
        if (fault() != NONE) return STATE;
        Matcher m = WHOLE.matcher(text);
        if (!m.matches()) throw new IllegalStateException(text);
        inputs = m.group(1).charAt(0) - '0';
        nexts = m.group(3);
        gates = new ArrayList<>();
        Matcher g = GATE.matcher(m.group(2));
        while (g.find()) gates.add(new Gate(g.group().charAt(0), g.group().substring(1)));
        acts.clear();
        kept.set(0, null);
        kept.set(1, null);
        paths = new ArrayList<>();
        for (int i = 0; i < inputs; i++) extend("" + (char) ('a' + i));
        return paths.size();
    }

    private void extend(String begun) {
        String last = begun.substring(begun.length() - 1);
        if (last.equals("" + (gates.size() - 1))) {
            paths.add(begun);
            return;
        }
        for (int g = 0; g < gates.size(); g++) if (gates.get(g).signals.contains(last)) extend(begun + g);
    }

    private boolean noGate(int g) {
        return g < 0 || g >= gates.size();
    }

    private boolean noPath(int p) {
        return p < 0 || p >= paths.size();
    }

    private boolean badPair(int pair) {
        return pair < 0 || pair > 255 || pair / 16 >= 1 << inputs || pair % 16 >= 1 << inputs;
    }

    private static int kind(Gate g) {
        return "&|no~".indexOf(g.sign);
    }

    private static int code(char signal) {
        return signal >= 'a' ? signal - 'a' : 10 + signal - '0';
    }

    int gate(int g, int what) {
        if (noGate(g)) return UNKNOWN;
        Gate it = gates.get(g);
        if (what == 0) return kind(it);
        if (what == 1) return code(it.signals.charAt(0));
        if (what == 2) return it.signals.length() == 1 ? NONE : code(it.signals.charAt(1));
        if (what == 3) return it.delay;
        return OUTSIDE;
    }

    // ---- acts

    private void act(int... a) {
        acts.add(a);
        if (acts.size() > 14) acts.remove(0);
    }

    int slow(int g, int delay) {
        if (noGate(g)) return UNKNOWN;
        if (delay < 1 || delay > 9) return OUTSIDE;
        int was = gates.get(g).delay;
        act(0, g, was);
        gates.get(g).delay = delay;
        return was;
    }

    int turn(int g, int kind) {
        if (noGate(g)) return UNKNOWN;
        if (kind < 0 || kind > 3) return OUTSIDE;
        int was = kind(gates.get(g));
        if (was == 4 || was == kind) return STATE;
        act(1, g, was);
        gates.get(g).sign = "&|no".charAt(kind);
        return was;
    }

    int undo() {
        if (acts.isEmpty()) return STATE;
        int[] a = acts.remove(acts.size() - 1);
        if (a[0] == 0) gates.get(a[1]).delay = a[2];
        else gates.get(a[1]).sign = "&|no".charAt(a[2]);
        return acts.size();
    }

    // ---- paths

    private int length(String path) {
        int sum = 0;
        for (char c : path.substring(1).toCharArray()) sum += gates.get(c - '0').delay;
        return sum;
    }

    int path(int p, int what) {
        if (noPath(p)) return UNKNOWN;
        if (what < 0) return OUTSIDE;
        String it = paths.get(p);
        if (what == 0) return it.charAt(0) - 'a';
        if (what == 1) return it.length() - 1;
        if (what == 2) return length(it);
        long at = (long) what - 3 + 1;
        return at >= it.length() ? NONE : it.charAt((int) at) - '0';
    }

    int longest(int what) {
        if (what != 0 && what != 1) return OUTSIDE;
        if (paths.isEmpty()) return NONE;
        int most = paths.stream().mapToInt(this::length).max().getAsInt();
        if (what == 0) return most;
        for (int p = 0; p < paths.size(); p++) if (length(paths.get(p)) == most) return p;
        throw new IllegalStateException();
    }

    // ---- tests

    private static boolean makes(char sign, boolean x, boolean y) {
        switch (sign) {
            case '&': return x && y;
            case '|': return x || y;
            case 'n': return !(x && y);
            case 'o': return !(x || y);
            default: return !x;
        }
    }

    private boolean steady(char signal, int pattern) {
        if (signal >= 'a') return (pattern >> (signal - 'a') & 1) == 1;
        Gate g = gates.get(signal - '0');
        return makes(g.sign, steady(g.signals.charAt(0), pattern),
                steady(g.signals.charAt(g.signals.length() - 1), pattern));
    }

    private int valueOf(char signal, int pair) {
        if (signal >= 'a') {
            int bit = signal - 'a';
            int was = pair / 16 >> bit & 1, is = pair % 16 >> bit & 1;
            return was == is ? was : is == 0 ? 2 : 3;
        }
        Gate g = gates.get(signal - '0');
        Set<Integer> of = new HashSet<>();
        for (char c : g.signals.toCharArray()) of.add(valueOf(c, pair));
        int plain;
        if (g.sign == '~') plain = of.iterator().next();
        else if (g.sign == '&' || g.sign == 'n')
            plain = of.contains(0) ? 0 : Set.of(1).equals(of) ? 1 : Set.of(1, 3).containsAll(of) ? 3 : 2;
        else plain = of.contains(1) ? 1 : Set.of(0).equals(of) ? 0 : Set.of(0, 2).containsAll(of) ? 2 : 3;
        if (g.sign == '&' || g.sign == '|') return plain;
        return new int[] {1, 0, 3, 2}[plain];
    }

    int value(int g, int pair) {
        if (noGate(g)) return UNKNOWN;
        if (badPair(pair)) return OUTSIDE;
        return valueOf((char) ('0' + g), pair);
    }

    /** How far a pair tests the gates that are told of a path, or of a beginning of one. */
    private int howFar(String path, int pair) {
        if (valueOf(path.charAt(0), pair) < 2) return 0;
        boolean surely = true;
        for (int i = 1; i < path.length(); i++) {
            Gate g = gates.get(path.charAt(i) - '0');
            if (g.sign == '~') continue;
            char on = path.charAt(i - 1);
            char side = g.signals.replace("" + on, "").charAt(0);
            boolean lets = g.sign == '&' || g.sign == 'n';
            if (steady(side, pair % 16) != lets) return 0;
            if (steady(on, pair % 16) != lets && valueOf(side, pair) != (lets ? 1 : 0)) surely = false;
        }
        return surely ? 2 : 1;
    }

    int tests(int p, int pair) {
        if (noPath(p)) return UNKNOWN;
        if (badPair(pair)) return OUTSIDE;
        return howFar(paths.get(p), pair);
    }

    private boolean launched(int how, int pair) {
        for (int i = 0; i < inputs; i++) {
            boolean second = (pair % 16 >> i & 1) == 1;
            if (how == 1 && i > 0 && second != ((pair / 16 >> (i - 1) & 1) == 1)) return false;
            if (how == 2 && second != steady(nexts.charAt(i), pair / 16)) return false;
        }
        return true;
    }

    private List<Integer> pairs(int how) {
        List<Integer> all = new ArrayList<>();
        for (int pair = 0; pair < 256; pair++) if (!badPair(pair) && launched(how, pair)) all.add(pair);
        return all;
    }

    private static boolean goes(char input, int pair, int rises) {
        int bit = input - 'a';
        return (pair / 16 >> bit & 1) == 1 - rises && (pair % 16 >> bit & 1) == rises;
    }

    private List<Integer> proofs(String begun, int rises, int how) {
        List<Integer> found = new ArrayList<>();
        for (int pair : pairs(how))
            if (goes(begun.charAt(0), pair, rises) && howFar(begun, pair) == 2) found.add(pair);
        return found;
    }

    int best(int p, int rises, int how, int what) {
        if (noPath(p)) return UNKNOWN;
        if (rises < 0 || rises > 1 || how < 0 || how > 2 || what < 0 || what > 1) return OUTSIDE;
        List<Integer> found = proofs(paths.get(p), rises, how);
        if (what == 1) return found.size();
        return found.isEmpty() ? NONE : found.get(0);
    }

    int pruned() {
        Set<String> beginnings = new LinkedHashSet<>();
        for (String path : paths)
            for (int k = 1; k <= path.length(); k++) beginnings.add(path.substring(0, k));
        int many = 0;
        for (int rises = 0; rises <= 1; rises++)
            for (String begun : beginnings)
                if (begun.length() > 1 && proofs(begun, rises, 0).isEmpty()
                        && !proofs(begun.substring(0, begun.length() - 1), rises, 0).isEmpty()) many++;
        return many;
    }

    int packed(int how, int i) {
        if (how < 0 || how > 2 || i < -1) return OUTSIDE;
        Set<String> done = new HashSet<>();
        List<Integer> taken = new ArrayList<>();
        while (true) {
            int most = 0, which = NONE;
            Set<String> gain = new HashSet<>();
            for (int pair : pairs(how)) {
                Set<String> fresh = new HashSet<>();
                for (String path : paths)
                    if (howFar(path, pair) == 2) fresh.add(path + (goes(path.charAt(0), pair, 1) ? "+" : "-"));
                fresh.removeAll(done);
                if (fresh.size() > most) {
                    most = fresh.size();
                    which = pair;
                    gain = fresh;
                }
            }
            if (which == NONE) break;
            taken.add(which);
            done.addAll(gain);
        }
        if (i == -1) return taken.size();
        return i < taken.size() ? taken.get(i) : NONE;
    }

    // ---- waves

    private boolean waveOf(char signal, int pair, int t) {
        if (signal >= 'a') return steady(signal, t < 0 ? pair / 16 : pair % 16);
        Gate g = gates.get(signal - '0');
        return makes(g.sign, waveOf(g.signals.charAt(0), pair, t - g.delay),
                waveOf(g.signals.charAt(g.signals.length() - 1), pair, t - g.delay));
    }

    int wave(int g, int pair, int t) {
        if (noGate(g)) return UNKNOWN;
        if (badPair(pair) || t < 0 || t > 99) return OUTSIDE;
        return waveOf((char) ('0' + g), pair, t) ? 1 : 0;
    }

    private boolean isLate(int pair, int t) {
        char output = (char) ('0' + gates.size() - 1);
        return waveOf(output, pair, t) != steady(output, pair % 16);
    }

    int late(int pair, int t) {
        if (badPair(pair) || t < 0 || t > 99) return OUTSIDE;
        if (gates.isEmpty()) return STATE;
        return isLate(pair, t) ? 1 : 0;
    }

    int judge(int n, long row) {
        if (n < 1 || n > 4 || row < 0 || ("" + row).length() > 4 * n) return OUTSIDE;
        String figures = "0".repeat(4 * n - ("" + row).length()) + row;
        List<Gate> real = gates;
        gates = copyOf(gates);
        int first = NONE;
        for (int i = 0; i < n && first == NONE; i++)
            if (!canBe(figures.substring(4 * i, 4 * i + 4))) first = i;
        gates = real;
        return first;
    }

    private boolean canBe(String doing) {
        int[] f = doing.chars().map(c -> c - '0').toArray();
        int two = f[1] * 10 + f[2];
        if (f[0] == 1) {
            if (noGate(f[1]) || f[2] != 0 || f[3] == 0) return false;
            gates.get(f[1]).delay = f[3];
            return true;
        }
        if (f[0] == 2) {
            if (noGate(f[1]) || f[2] != 0 || f[3] > 3 || gates.get(f[1]).sign == '~') return false;
            gates.get(f[1]).sign = "&|no".charAt(f[3]);
            return true;
        }
        if (f[0] == 3) return !noPath(two) && length(paths.get(two)) >= f[3];
        if (f[0] == 4) return paths.stream().filter(p -> length(p) >= two).count() >= f[3];
        if (f[0] == 5) return !noPath(two) && f[3] <= 1 && !proofs(paths.get(two), f[3], 0).isEmpty();
        return f[0] == 6 && f[1] == 0 && pruned() >= f[2] * 10 + f[3];
    }

    private static List<Gate> copyOf(List<Gate> gates) {
        List<Gate> copy = new ArrayList<>();
        for (Gate g : gates) copy.add(g.copy());
        return copy;
    }

    // ---- seen

    int see(int pair, int t, int late) {
        if (pair < 0 || pair > 255 || t < 0 || t > 99 || late < 0 || late > 1) return OUTSIDE;
        if (seen.size() == 6) return FULL;
        seen.add(new int[] {pair, t, late});
        return seen.size();
    }

    int unsee() {
        int was = seen.size();
        seen.clear();
        return was;
    }

    int slower(int what) {
        if (what < 0 || what > 1) return OUTSIDE;
        List<Integer> found = new ArrayList<>();
        for (int g = 0; g < gates.size(); g++)
            for (int more = 1; more <= 9; more++) {
                gates.get(g).delay += more;
                if (seen.stream().allMatch(s -> isLate(s[0], s[1]) == (s[2] == 1))) found.add(10 * g + more);
                gates.get(g).delay -= more;
            }
        if (what == 0) return found.size();
        return found.isEmpty() ? NONE : found.get(0);
    }

    // ---- shares, chances

    private static int told(BigInteger above, BigInteger below, boolean upper) {
        return (upper ? above : below).divide(above.gcd(below)).intValueExact();
    }

    private int greatest(Set<Integer> come) {
        int most = 0;
        for (String path : paths) {
            int sum = 0;
            for (char c : path.substring(1).toCharArray()) if (come.contains(c - '0')) sum += gates.get(c - '0').delay;
            most = Math.max(most, sum);
        }
        return most;
    }

    /** How much more, over every order in which the rest can come. */
    private long[] overOrders(int gate, Set<Integer> come) {
        if (come.contains(gate)) {
            long orders = 1;
            for (int i = 2; i <= gates.size() - come.size(); i++) orders *= i;
            Set<Integer> before = new HashSet<>(come);
            before.remove(gate);
            return new long[] {orders * (greatest(come) - greatest(before)), orders};
        }
        long[] sum = {0, 0};
        for (int g = 0; g < gates.size(); g++)
            if (!come.contains(g)) {
                Set<Integer> with = new HashSet<>(come);
                with.add(g);
                long[] one = overOrders(gate, with);
                sum[0] += one[0];
                sum[1] += one[1];
            }
        return sum;
    }

    int share(int g, boolean upper) {
        if (noGate(g)) return UNKNOWN;
        long[] sum = overOrders(g, new HashSet<>());
        return told(BigInteger.valueOf(sum[0]), BigInteger.valueOf(sum[1]), upper);
    }

    private long chance(int g, int pair, int t, int x) {
        if (g == gates.size()) return isLate(pair, t) ? 1 : 0;
        long sum = (10 - x) * chance(g + 1, pair, t, x);
        gates.get(g).delay += 3;
        sum += x * chance(g + 1, pair, t, x);
        gates.get(g).delay -= 3;
        return sum;
    }

    int slows(int pair, int t, int x, boolean upper) {
        if (badPair(pair) || t < 0 || t > 99 || x < 0 || x > 10) return OUTSIDE;
        if (gates.isEmpty()) return STATE;
        return told(BigInteger.valueOf(chance(0, pair, t, x)), BigInteger.TEN.pow(gates.size()), upper);
    }

    long seed(long v) {
        long was = theSeed.longValue();
        theSeed = BigInteger.valueOf(v);
        return was;
    }

    int drawn(int m) {
        if (m < 1 || m > 20) return OUTSIDE;
        int sum = 0;
        for (int i = 0; i < m; i++) {
            theSeed = theSeed.multiply(new BigInteger("6364136223846793005")).add(new BigInteger("1442695040888963407"))
                    .mod(BigInteger.ONE.shiftLeft(64));
            int upper = theSeed.shiftRight(33).intValueExact();
            int first = upper % 16 % (1 << inputs), second = upper / 16 % 16 % (1 << inputs);
            for (String path : paths) sum += howFar(path, first * 16 + second);
        }
        return sum;
    }

    // ---- slots

    int keep(int slot) {
        if (slot < 0 || slot > 1) return UNKNOWN;
        kept.set(slot, copyOf(gates));
        return gates.size();
    }

    int again(int slot) {
        if (slot < 0 || slot > 1) return UNKNOWN;
        if (kept.get(slot) == null) return STATE;
        gates = copyOf(kept.get(slot));
        acts.clear();
        return gates.size();
    }

    int count(int what) {
        if (what < 0 || what > 11) return OUTSIDE;
        if (what >= 8) return what - 8 < inputs ? code(nexts.charAt(what - 8)) : NONE;
        int sure = 0;
        if (what == 4)
            for (String path : paths)
                for (int rises = 0; rises <= 1; rises++) sure += proofs(path, rises, 0).isEmpty() ? 0 : 1;
        int delays = gates.stream().mapToInt(g -> g.delay).sum();
        return new int[] {text.length(), inputs, gates.size(), paths.size(), sure, delays, acts.size(), seen.size()}[what];
    }
}
