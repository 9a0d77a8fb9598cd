import java.util.Random;

/** Runs of calls, drawn by fixed seeds, against the model; each ends with a look at all, and no later than at 512 calls. */
public final class RandomRunsTest {
    private static final int RUNS = 1500;
    private static final int CALLS = 512;
    private static final int CALLS_OF_ONE_DRAW = 6;
    private static final int CALLS_OF_THE_LOOK = 180;
    private static final String LETTERS = "ABCDEFGHIJ";

    private final Random draw;
    private final int run;
    private final LastTrain x = new LastTrain();
    private final Model m = new Model();

    private RandomRunsTest(int run) {
        this.run = run;
        this.draw = new Random(run);
    }

    public static void main(String[] args) {
        Due all = new Due();
        for (int run = 0; run < RUNS; run++) {
            RandomRunsTest test = new RandomRunsTest(run);
            test.prepare();
            // Runs of all lengths, so that the look at their end falls on all that can be under way.
            int most = CALLS - CALLS_OF_THE_LOOK - CALLS_OF_ONE_DRAW;
            int length = 60 + run * 7919 % (most - 59);
            while (test.calls < length) {
                test.callOne();
            }
            test.compare();
            all.is("wrong answers of run " + run, test.wrong, 0);
            all.is("calls too many of run " + run, Math.max(0, test.calls - CALLS), 0);
        }
        all.end();
    }

    private int wrong = 0;
    private int calls = 0;

    private void same(String call, long got, long want) {
        calls++;
        if (got != want) {
            wrong++;
            if (wrong < 5) {
                System.out.println("run " + run + ": " + call + " answered " + got + ", the model " + want);
            }
        }
    }

    /** A number that is mostly as told, and at times just beside it or far from it. */
    private int within(int least, int most) {
        int luck = draw.nextInt(60);
        if (luck == 0) return least - 1;
        if (luck == 1) return most + 1;
        if (luck == 2) return draw.nextBoolean() ? Integer.MIN_VALUE : Integer.MAX_VALUE;
        if (luck == 3) return draw.nextInt();
        return least + draw.nextInt(most - least + 1);
    }

    private void prepare() {
        int ties = draw.nextInt(30);
        for (int i = 0; i < ties; i++) tie();
        int aways = draw.nextInt(6);
        for (int i = 0; i < aways; i++) one();
        for (int i = 0; i < 2; i++) law();
    }

    private void tie() {
        int a = within(0, 9), b = within(0, 9), k = within(0, 3), v = within(0, 9);
        same("tie " + a + " " + b + " " + k + " " + v, x.tie(a, b, k, v), m.tie(a, b, k, v));
    }

    private void one() {
        int a = within(0, 9), h = draw.nextInt(3) == 0 ? within(0, 1) : 1, d = within(0, 1);
        same("one " + a + " " + h + " " + d, x.one(a, h, d), m.one(a, h, d));
    }

    private void law() {
        int which = within(0, 3), v = which < 2 ? within(1, draw.nextInt(4) == 0 ? 9 : 3) : within(0, 1);
        same("law " + which + " " + v, x.law(which, v), m.law(which, v));
    }

    private void say(int sign) {
        same("say " + sign, x.say(sign), m.say(sign));
    }

    private char letter() {
        return LETTERS.charAt(draw.nextInt(10));
    }

    private void sayAct() {
        int luck = draw.nextInt(12);
        StringBuilder act = new StringBuilder();
        if (luck < 4) act.append(letter()).append("+-$+".charAt(luck)).append(letter());
        else if (luck < 5) act.append(letter()).append('d');
        else if (luck < 9) act.append(letter()).append('>');
        else act.append(luck < 11 ? '.' : '~');
        for (char sign : act.toString().toCharArray()) say(sign);
        same("judge", x.judge(0), m.judge(0));
        if (m.judge(0) >= 0 && draw.nextInt(3) > 0) {
            same("wipe", x.wipe(), m.wipe());
        }
    }

    private void callOne() {
        int a = within(0, 9), what = within(0, 1), what3 = within(0, 2);
        int odds = draw.nextInt(3) == 0 ? within(0, 999999) : "0059".charAt(draw.nextInt(4)) - '0' + 111 * draw.nextInt(9009);
        switch (draw.nextInt(37)) {
            case 0, 1 -> tie();
            case 2 -> one();
            case 3 -> law();
            case 4 -> say(draw.nextInt(4) == 0 ? within(33, 126) : "ABCJK+-$d>.~".charAt(draw.nextInt(12)));
            case 5, 6, 7, 8, 9, 10, 11, 12 -> sayAct();
            case 13 -> same("wipe", x.wipe(), m.wipe());
            case 14 -> same("judge " + what3, x.judge(what3), m.judge(what3));
            case 15 -> {
                int what5 = within(0, 4);
                same("behind " + a + " " + what5, x.behind(a, what5), m.behind(a, what5));
            }
            case 16 -> same("city " + what3, x.city(what3), m.city(what3));
            case 17 -> same("taken " + what, x.taken(what), m.taken(what));
            case 18 -> same("done", x.done(), m.done());
            case 19 -> same("stays " + what, x.stays(what), m.stays(what));
            case 20 -> same("keep " + a + " " + what, x.keep(a, what), m.keep(a, what));
            case 21 -> same("loose " + a + " " + what, x.loose(a, what), m.loose(a, what));
            case 22 -> same("seats " + a + " " + what, x.seats(a, what), m.seats(a, what));
            case 23 -> same("calls " + odds + " " + what, x.calls(odds, what), m.calls(odds, what));
            case 24 -> same("order " + odds, x.order(odds), m.order(odds));
            case 25 -> sight(a);
            case 26 -> same("ring " + what, x.ring(what), m.ring(what));
            case 27 -> answers();
            case 28 -> {
                int n = within(0, 999);
                same("number " + n + " " + what, x.number(n, what), m.number(n, what));
            }
            case 29 -> {
                int seed = within(0, 9999), acts = within(1, 99);
                same("year " + seed + " " + acts + " " + what3, x.year(seed, acts, what3), m.year(seed, acts, what3));
            }
            case 30 -> same("image " + what, x.image(what), m.image(what));
            case 31 -> same("restore " + what, x.restore(what), m.restore(what));
            case 32 -> same("forget", x.forget(), m.forget());
            case 33 -> {
                int told = draw.nextInt(4) == 0 ? within(0, 5) : within(0, 299);
                same("told " + told, x.told(told), m.told(told));
            }
            case 34 -> same("who", x.who(), m.who());
            case 35 -> same("fault", x.fault(), m.fault());
            default -> sight(a);
        }
    }

    private void sight(int a) {
        boolean yes = draw.nextInt(3) == 0;
        same("rung " + a + " " + yes, x.rung(a, yes), m.rung(a, yes));
    }

    private void answers() {
        int n = within(0, 10), t = within(0, 10), what = within(0, 1), part = within(0, 1);
        same("answers " + n + " " + t + " " + what + " " + part, x.answers(n, t, what, part), m.answers(n, t, what, part));
    }

    /** What calls that change nothing tell of all that is held. */
    private void compare() {
        for (int what = 0; what < 14; what++) {
            same("told " + what, x.told(what), m.told(what));
        }
        for (int one = 0; one < 10; one++) {
            same("behind " + one, x.behind(one, 4), m.behind(one, 4));
            for (int other = 0; other < one; other++) {
                int both = 10 * one + other;
                same("strength " + both, x.told(100 + both), m.told(100 + both));
                same("kind " + both, x.told(200 + both), m.told(200 + both));
            }
        }
        same("fault", x.fault(), m.fault());
        same("who", x.who(), m.who());
        for (int what = 0; what < 2; what++) {
            same("taken " + what, x.taken(what), m.taken(what));
            same("ring " + what, x.ring(what), m.ring(what));
        }
        for (int what = 0; what < 3; what++) {
            same("judge " + what, x.judge(what), m.judge(what));
            same("city " + what, x.city(what), m.city(what));
        }
    }
}
