import java.math.BigInteger;
import java.util.ArrayList;
import java.util.List;
import java.util.TreeMap;
import java.util.regex.Matcher;
import java.util.regex.Pattern;

/**
 * The document once more, in another way: every set is tried, every order, every outcome.
 * It is slow and keeps to no rule of the program's language.
 */
final class Model implements Cloneable {
    private static final Pattern ACT = Pattern.compile("[A-J][-+$][A-J]|[A-J][d>]|[.~]");
    private static final Pattern START = Pattern.compile("[A-J][-+$]?");

    boolean[] here = new boolean[10];
    boolean[] dog = new boolean[10];
    boolean[] waits = new boolean[10];
    int[][] strong = new int[10][10];
    int[][] kind = new int[10][10];
    int[] law = {1, 1, 1, 1};
    List<Integer> rung = new ArrayList<>();
    List<Boolean> said = new ArrayList<>();
    String pad = "";
    Model[] images = new Model[2];

    // What the acts told, when they were played last.
    int acts, why, went, cut, takenAct, takenOne;

    Model() {
        for (int a = 0; a < 10; a++) {
            here[a] = true;
            for (int b = 0; b < 10; b++) {
                kind[a][b] = a == b ? -6 : 2;
            }
        }
    }

    Model copy() {
        Model copy = new Model();
        copy.here = here.clone();
        copy.dog = dog.clone();
        copy.waits = waits.clone();
        copy.law = law.clone();
        for (int a = 0; a < 10; a++) {
            copy.strong[a] = strong[a].clone();
            copy.kind[a] = kind[a].clone();
        }
        copy.rung = new ArrayList<>(rung);
        copy.said = new ArrayList<>(said);
        copy.pad = pad;
        return copy;
    }

    private static int bits(boolean[] set) {
        int bits = 0;
        for (int a = 0; a < set.length; a++) {
            bits += set[a] ? 1 << a : 0;
        }
        return bits;
    }

    private static boolean in(int bits, int a) {
        return (bits & 1 << a) != 0;
    }

    private static boolean one(int a) {
        return 0 <= a && a <= 9;
    }

    private static boolean flag(int v) {
        return 0 <= v && v <= 1;
    }

    // ---- 1

    int tie(int a, int b, int k, int v) {
        if (!one(a) || !one(b) || a == b) return -1;
        if (k < 0 || k > 3 || v < 0 || v > 9) return -2;
        int was = strong[a][b];
        strong[a][b] = strong[b][a] = v;
        kind[a][b] = kind[b][a] = k;
        return was;
    }

    int one(int a, int h, int d) {
        if (!one(a)) return -1;
        if (!flag(h) || !flag(d)) return -2;
        here[a] = h == 1;
        dog[a] = d == 1;
        waits[a] = false;
        return Integer.bitCount(bits(here));
    }

    int law(int which, int v) {
        if (which < 0 || which > 3) return -2;
        if (which < 2 ? v < 1 || v > 9 : !flag(v)) return -2;
        int was = law[which];
        law[which] = v;
        return was;
    }

    int say(int sign) {
        if (sign < 33 || sign > 126) return -2;
        if (pad.length() == 60) return -4;
        pad += (char) sign;
        return pad.length();
    }

    int wipe() {
        int was = pad.length();
        pad = "";
        return was;
    }

    private List<String> read() {
        List<String> acts = new ArrayList<>();
        Matcher m = ACT.matcher(pad);
        int at = 0;
        while (m.find(at) && m.start() == at) {
            acts.add(m.group());
            at = m.end();
            if (at == pad.length()) break;
        }
        return acts;
    }

    int fault() {
        int at = String.join("", read()).length();
        if (at == pad.length()) return -6;
        Matcher m = START.matcher(pad);
        return m.find(at) && m.start() == at ? m.end() : at;
    }

    // ---- 2

    private boolean missed(int a) {
        if (!here[a]) return false;
        int by = dog[a] && law[3] == 1 ? 1 : 0;
        for (int b = 0; b < 10; b++) {
            if (b != a && here[b] && strong[a][b] >= law[1] && (kind[a][b] != 3 || law[2] == 1)) by++;
        }
        return by >= law[0];
    }

    private int missedBits() {
        boolean[] all = new boolean[10];
        for (int a = 0; a < 10; a++) all[a] = missed(a);
        return bits(all);
    }

    private int night() {
        int gone = bits(waits) & ~missedBits();
        waits = new boolean[10];
        for (int a = 0; a < 10; a++) {
            if (in(gone, a)) here[a] = false;
        }
        for (int a = 0; a < 10; a++) {
            for (int b = 0; b < 10; b++) {
                if (in(gone, a) && here[b]) cut += strong[a][b];
            }
        }
        return gone;
    }

    /** 0, if it could be and was done. */
    private int act(String act) {
        if (act.equals(".")) {
            if (bits(waits) == 0) return 4;
            int gone = night();
            went += Integer.bitCount(gone);
            if (gone != 0 && takenAct == -6) {
                takenAct = acts;
                takenOne = Integer.numberOfTrailingZeros(gone);
            }
            return 0;
        }
        if (act.equals("~")) {
            int less = 0;
            for (int a = 0; a < 10; a++) {
                for (int b = 0; b < 10; b++) {
                    if (here[a] && here[b] && kind[a][b] != 3 && strong[a][b] > 0) {
                        strong[a][b]--;
                        less++;
                    }
                }
            }
            return less == 0 ? 5 : 0;
        }
        int a = act.charAt(0) - 'A';
        char deed = act.charAt(1);
        if (!here[a]) return 1;
        if (deed == 'd') {
            dog[a] = !dog[a];
            return 0;
        }
        if (deed == '>') {
            waits[a] = !waits[a];
            return 0;
        }
        int b = act.charAt(2) - 'A';
        if (!here[b]) return 1;
        if (a == b) return 2;
        if (deed == '+') {
            if (strong[a][b] == 9) return 3;
            tie(a, b, kind[a][b], Math.min(9, strong[a][b] + 2));
        } else if (deed == '-') {
            if (strong[a][b] == 0) return 3;
            tie(a, b, kind[a][b], Math.max(0, strong[a][b] - 3));
        } else {
            if (strong[a][b] == 9 && kind[a][b] == 3) return 3;
            tie(a, b, 3, 9);
        }
        return 0;
    }

    private Model played() {
        Model ahead = copy();
        ahead.takenAct = ahead.takenOne = -6;
        for (String act : read()) {
            ahead.why = ahead.act(act);
            if (ahead.why != 0) return ahead;
            ahead.acts++;
        }
        return ahead;
    }

    private int refusal(Model ahead) {
        return fault() != -6 ? -5 : ahead.why != 0 ? -3 : 0;
    }

    int judge(int what) {
        if (what < 0 || what > 2) return -2;
        if (fault() != -6) return -5;
        Model ahead = played();
        if (what == 2) return ahead.why != 0 ? -3 : ahead.went;
        return ahead.why == 0 ? -6 : what == 0 ? ahead.acts : ahead.why;
    }

    int behind(int a, int what) {
        if (!one(a)) return -1;
        if (what < 0 || what > 4) return -2;
        Model ahead = played();
        if (refusal(ahead) != 0) return refusal(ahead);
        int strength = 0;
        for (int b = 0; b < 10; b++) strength += ahead.here[b] ? ahead.strong[a][b] : 0;
        return switch (what) {
            case 0 -> ahead.here[a] ? 1 : 0;
            case 1 -> ahead.dog[a] ? 1 : 0;
            case 2 -> ahead.waits[a] ? 1 : 0;
            case 3 -> !ahead.here[a] ? -6 : ahead.missed(a) ? 1 : 0;
            default -> strength;
        };
    }

    int city(int what) {
        if (what < 0 || what > 2) return -2;
        Model ahead = played();
        if (refusal(ahead) != 0) return refusal(ahead);
        return what == 0 ? bits(ahead.here) : what == 1 ? ahead.missedBits() : ahead.cut;
    }

    int taken(int what) {
        if (!flag(what)) return -2;
        Model ahead = played();
        if (refusal(ahead) != 0) return refusal(ahead);
        return what == 0 ? ahead.takenAct : ahead.takenOne;
    }

    int done() {
        Model ahead = played();
        if (refusal(ahead) != 0) return refusal(ahead);
        take(ahead);
        pad = "";
        return ahead.acts;
    }

    private void take(Model from) {
        Model copy = from.copy();
        here = copy.here;
        dog = copy.dog;
        waits = copy.waits;
        strong = copy.strong;
        kind = copy.kind;
        law = copy.law;
        rung = copy.rung;
        said = copy.said;
    }

    // ---- 3

    /** The nights in which somebody goes; never: who never waits. */
    private int allGo(int never) {
        for (int nights = 0; ; nights++) {
            for (int a = 0; a < 10; a++) waits[a] = here[a] && !in(never, a);
            if (night() == 0) return nights;
        }
    }

    int stays(int what) {
        if (!flag(what)) return -2;
        Model ahead = copy();
        int nights = ahead.allGo(0);
        return what == 0 ? bits(ahead.here) : nights;
    }

    /** All sets, the fewest ahead of all others, of as few the least. */
    private static List<Integer> sets() {
        TreeMap<Integer, Integer> inOrder = new TreeMap<>();
        for (int set = 0; set < 1024; set++) inOrder.put(Integer.bitCount(set) * 1024 + set, set);
        return new ArrayList<>(inOrder.values());
    }

    private static int tell(int set, int what) {
        return what == 0 ? Integer.bitCount(set) : set;
    }

    int keep(int a, int what) {
        if (!one(a) || !here[a]) return -1;
        if (!flag(what)) return -2;
        for (int set : sets()) {
            if (in(set, a) || (set & ~bits(here)) != 0) continue;
            Model ahead = copy();
            ahead.allGo(set);
            if (ahead.here[a]) return tell(set, what);
        }
        return -6;
    }

    int loose(int a, int what) {
        if (!one(a) || !here[a]) return -1;
        if (!flag(what)) return -2;
        for (int set : sets()) {
            if (in(set, a) || (set & ~bits(here)) != 0) continue;
            Model ahead = copy();
            for (int b = 0; b < 10; b++) {
                if (in(set, b)) ahead.tie(a, b, 0, 0);
            }
            if (!ahead.missed(a)) return tell(set, what);
        }
        return -6;
    }

    int seats(int n, int what) {
        if (n < 0 || n > 9 || !flag(what)) return -2;
        int best = 0;
        for (int set : sets()) {
            boolean fits = Integer.bitCount(set) <= n && (set & ~(bits(here) & ~missedBits())) == 0;
            for (int a = 0; a < 10; a++) {
                for (int b = 0; b < 10; b++) {
                    if (in(set, a) && in(set, b) && strong[a][b] >= 1) fits = false;
                }
            }
            if (fits && Integer.bitCount(set) > Integer.bitCount(best)) best = set;
        }
        return tell(best, what);
    }

    private static int[] digits(int odds) {
        int[] digits = new int[6];
        for (int i = 5, left = odds; i >= 0; i--, left /= 10) digits[i] = left % 10;
        return digits;
    }

    /** The mean of an order, as so many of 100000. */
    private static long mean(int[] odds, int[] order) {
        long sum = 0;
        long silent = 100000;
        for (int who : order) {
            sum += silent;
            silent = silent * (10 - odds[who]) / 10;
        }
        return sum;
    }

    private static boolean isOrder(int order) {
        int met = 0;
        for (int who : digits(order)) met |= 1 << who;
        return met == 63;
    }

    private static final List<int[]> ORDERS = new ArrayList<>();

    static {
        for (int order = 0; order <= 543210; order++) {
            if (isOrder(order)) ORDERS.add(digits(order));
        }
    }

    int order(int odds) {
        if (odds < 0 || odds > 999999) return -2;
        int[] best = ORDERS.get(0);
        for (int[] order : ORDERS) {
            if (mean(digits(odds), order) < mean(digits(odds), best)) best = order;
        }
        int told = 0;
        for (int who : best) told = 10 * told + who;
        return told;
    }

    private static long lowest(BigInteger upper, BigInteger lower, int part) {
        BigInteger common = upper.gcd(lower);
        return (part == 0 ? upper : lower).divide(common).longValueExact();
    }

    long calls(int odds, int part) {
        if (odds < 0 || odds > 999999 || !flag(part)) return -1000000000000000002L;
        long mean = mean(digits(odds), digits(order(odds)));
        return lowest(BigInteger.valueOf(mean), BigInteger.valueOf(100000), part);
    }

    // ---- 4

    int rung(int a, boolean yes) {
        if (!one(a)) return -1;
        if (rung.size() == 8) return -4;
        rung.add(a);
        said.add(yes);
        return rung.size();
    }

    int forget() {
        int was = rung.size();
        rung.clear();
        said.clear();
        return was;
    }

    private boolean says(int a, int of) {
        return a != of && strong[a][of] >= law[1];
    }

    int who() {
        boolean[] fits = new boolean[10];
        for (int he = 0; he < 10; he++) {
            fits[he] = true;
            for (int i = 0; i < rung.size(); i++) {
                if (says(rung.get(i), he) != said.get(i)) fits[he] = false;
            }
        }
        return bits(fits);
    }

    int ring(int what) {
        if (!flag(what)) return -2;
        if (who() == 0) return -6;
        int best = 99;
        int whom = -1;
        for (int a = 0; a < 10; a++) {
            int yes = 0;
            int no = 0;
            for (int he = 0; he < 10; he++) {
                if (in(who(), he)) {
                    if (says(a, he)) yes++; else no++;
                }
            }
            if (Math.max(yes, no) < best) {
                best = Math.max(yes, no);
                whom = a;
            }
        }
        return what == 0 ? whom : best;
    }

    long answers(int n, int t, int what, int part) {
        if (n < 0 || n > 10 || t < 0 || t > 10 || !flag(what) || !flag(part)) return -1000000000000000002L;
        BigInteger upper = BigInteger.ZERO;
        for (int outcome = 0; outcome < 1 << n; outcome++) {
            int yes = Integer.bitCount(outcome);
            BigInteger weight = BigInteger.valueOf(t).pow(yes).multiply(BigInteger.valueOf(10 - t).pow(n - yes));
            int calls = 0;
            for (int heard = 0; calls < n && heard < law[0]; calls++) heard += outcome >> calls & 1;
            int counts = what == 1 ? calls : yes >= law[0] ? 1 : 0;
            upper = upper.add(weight.multiply(BigInteger.valueOf(counts)));
        }
        return lowest(upper, BigInteger.TEN.pow(n), part);
    }

    private static final int[] FIRST_DIGIT = new int[1000];

    static {
        for (int n = 0; n < 1000; n++) {
            FIRST_DIGIT[n] = -6;
            for (int d = 9; d >= 1; d--) {
                if (String.valueOf(n).contains(String.valueOf(d)) && FIRST_DIGIT[n - d] == -6) FIRST_DIGIT[n] = d;
            }
        }
    }

    int number(int n, int what) {
        if (n < 0 || n > 999 || !flag(what)) return -2;
        return what == 1 ? FIRST_DIGIT[n] : FIRST_DIGIT[n] == -6 ? 0 : 1;
    }

    int year(int seed, int m, int what) {
        if (seed < 0 || seed > 9999 || m < 1 || m > 99 || what < 0 || what > 2) return -2;
        Model ahead = copy();
        int x = seed;
        for (int i = 0; i < m; i++) {
            x = (75 * x + 74) % 65537;
            String a = String.valueOf((char) ('A' + x % 10));
            String b = String.valueOf((char) ('A' + x / 10 % 10));
            ahead.act(switch (x / 100 % 8) {
                case 0, 1 -> a + "+" + b;
                case 2 -> a + "-" + b;
                case 3 -> a + "$" + b;
                case 4, 5 -> a + ">";
                case 6 -> ".";
                default -> "~";
            });
        }
        if (what == 0) return Integer.bitCount(bits(ahead.here));
        if (what == 2) return ahead.cut;
        int all = 0;
        for (int a = 0; a < 10; a++) {
            for (int b = 0; b < a; b++) all += ahead.strong[a][b];
        }
        return all;
    }

    int image(int k) {
        if (!flag(k)) return -2;
        images[k] = copy();
        return 1;
    }

    int restore(int k) {
        if (!flag(k)) return -2;
        if (images[k] == null) return -3;
        take(images[k]);
        return 1;
    }

    int told(int what) {
        if (what >= 100 && what < 200) return strong[what / 10 % 10][what % 10];
        if (what >= 200 && what < 300) return kind[what / 10 % 10][what % 10];
        if (what >= 10 && what < 14) return law[what - 10];
        return switch (what) {
            case 0 -> pad.length();
            case 1 -> bits(here);
            case 2 -> bits(dog);
            case 3 -> bits(waits);
            case 4 -> missedBits();
            case 5 -> rung.size();
            default -> -2;
        };
    }
}
