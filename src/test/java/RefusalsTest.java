/** Each call refused by each of its answers, in the document's order; a refused call changes nothing. */
public final class RefusalsTest {
    private static final int UNKNOWN = -1, OUTSIDE = -2, STATE = -3, FULL = -4, NO = -5;
    private static final long GONE_OUTSIDE = -1000000000000000002L;
    private static final int[] NO_ONES = {-1, 10, Integer.MIN_VALUE, Integer.MAX_VALUE};
    private static final int[] FAR = {Integer.MIN_VALUE, Integer.MAX_VALUE, -1000000007, 1000000007};

    private static final Due due = new Due();

    public static void main(String[] args) {
        LastTrain x = lived();
        people(x);
        sets(x);
        numbers(x);
        sightsAndImages();
        months("A+", NO);
        months("A+B~!", NO);
        months(".A", NO);
        months("B-I", STATE);
        months("A>..", STATE);
        fullPad();
        due.end();
    }

    /** An object of which something is everywhere. */
    private static LastTrain lived() {
        LastTrain x = new LastTrain();
        x.tie(0, 1, 0, 9);
        x.tie(1, 2, 3, 4);
        x.tie(2, 3, 1, 0);
        x.one(4, 0, 1);
        x.law(1, 2);
        x.rung(1, true);
        Due.say(x, "A>");
        x.done();
        Due.say(x, "B>.");
        return x;
    }

    private static void people(LastTrain x) {
        for (int no : NO_ONES) {
            due.refused(x, "tie of " + no, () -> x.tie(no, 1, 0, 1), UNKNOWN);
            due.refused(x, "tie to " + no, () -> x.tie(1, no, 0, 1), UNKNOWN);
            due.refused(x, "tie of " + no + ", outside", () -> x.tie(no, no, 4, 10), UNKNOWN);
            due.refused(x, "one " + no, () -> x.one(no, 1, 0), UNKNOWN);
            due.refused(x, "one " + no + ", outside", () -> x.one(no, 2, 2), UNKNOWN);
            due.refused(x, "tie of kind " + (no < 0 ? no : 4), () -> x.tie(0, 1, no < 0 ? no : 4, 1), OUTSIDE);
            due.refused(x, "tie of " + no, () -> x.tie(0, 1, 0, no), OUTSIDE);
            due.refused(x, "law of " + no, () -> x.law(0, no), OUTSIDE);
            due.refused(x, "law from " + no, () -> x.law(1, no), OUTSIDE);
            due.refused(x, "law of debts " + no, () -> x.law(2, no), OUTSIDE);
            due.refused(x, "law of dogs " + no, () -> x.law(3, no), OUTSIDE);
            due.refused(x, "law " + no, () -> x.law(no, 1), OUTSIDE);
            due.refused(x, "here " + no, () -> x.one(0, no, 0), OUTSIDE);
            due.refused(x, "dog " + no, () -> x.one(0, 0, no), OUTSIDE);
        }
        due.refused(x, "tie to itself", () -> x.tie(3, 3, 0, 1), UNKNOWN);
        due.refused(x, "tie to itself, outside", () -> x.tie(3, 3, 9, 99), UNKNOWN);
        due.refused(x, "here 2", () -> x.one(0, 2, 0), OUTSIDE);
        due.refused(x, "dog 2", () -> x.one(0, 1, 2), OUTSIDE);
        due.refused(x, "law 4", () -> x.law(4, 1), OUTSIDE);
        due.refused(x, "enough 0", () -> x.law(0, 0), OUTSIDE);
        due.refused(x, "from 0", () -> x.law(1, 0), OUTSIDE);
        due.refused(x, "debts 2", () -> x.law(2, 2), OUTSIDE);
        due.refused(x, "dogs 2", () -> x.law(3, 2), OUTSIDE);
        due.refused(x, "say 32", () -> x.say(32), OUTSIDE);
        due.refused(x, "say 127", () -> x.say(127), OUTSIDE);
        for (int far : FAR) {
            due.refused(x, "say " + far, () -> x.say(far), OUTSIDE);
        }
    }

    private static void sets(LastTrain x) {
        for (int no : NO_ONES) {
            due.refused(x, "behind " + no, () -> x.behind(no, 9), UNKNOWN);
            due.refused(x, "keep " + no, () -> x.keep(no, 9), UNKNOWN);
            due.refused(x, "loose " + no, () -> x.loose(no, 9), UNKNOWN);
            due.refused(x, "behind, " + no, () -> x.behind(0, no), OUTSIDE);
            due.refused(x, "keep, " + no, () -> x.keep(0, no), OUTSIDE);
            due.refused(x, "loose, " + no, () -> x.loose(0, no), OUTSIDE);
            due.refused(x, "judge " + no, () -> x.judge(no), OUTSIDE);
            due.refused(x, "city " + no, () -> x.city(no), OUTSIDE);
            due.refused(x, "taken " + no, () -> x.taken(no), OUTSIDE);
            due.refused(x, "stays " + no, () -> x.stays(no), OUTSIDE);
            due.refused(x, "seats " + no, () -> x.seats(no, 0), OUTSIDE);
            due.refused(x, "seats, " + no, () -> x.seats(1, no), OUTSIDE);
        }
        due.refused(x, "keep of who is away", () -> x.keep(4, 9), UNKNOWN);
        due.refused(x, "loose of who is away", () -> x.loose(4, 9), UNKNOWN);
        due.is("behind of who is away", x.behind(4, 0), 0);
        due.refused(x, "behind, 5", () -> x.behind(4, 5), OUTSIDE);
        due.refused(x, "keep, 2", () -> x.keep(0, 2), OUTSIDE);
        due.refused(x, "loose, 2", () -> x.loose(0, 2), OUTSIDE);
        due.refused(x, "judge 3", () -> x.judge(3), OUTSIDE);
        due.refused(x, "city 3", () -> x.city(3), OUTSIDE);
        due.refused(x, "taken 2", () -> x.taken(2), OUTSIDE);
        due.refused(x, "stays 2", () -> x.stays(2), OUTSIDE);
        due.refused(x, "seats, 2", () -> x.seats(1, 2), OUTSIDE);
    }

    private static void numbers(LastTrain x) {
        int[] notOdds = {-1, 1000000, Integer.MIN_VALUE, Integer.MAX_VALUE};
        for (int odds : notOdds) {
            due.refused(x, "calls " + odds, () -> x.calls(odds, 0), GONE_OUTSIDE);
            due.refused(x, "order " + odds, () -> x.order(odds), OUTSIDE);
        }
        int[] notFlags = {-1, 2, Integer.MIN_VALUE, Integer.MAX_VALUE};
        for (int no : notFlags) {
            due.refused(x, "calls, " + no, () -> x.calls(123456, no), GONE_OUTSIDE);
            due.refused(x, "ring " + no, () -> x.ring(no), OUTSIDE);
            due.refused(x, "answers, , " + no, () -> x.answers(1, 1, no, 0), GONE_OUTSIDE);
            due.refused(x, "answers, , , " + no, () -> x.answers(1, 1, 0, no), GONE_OUTSIDE);
            due.refused(x, "number, " + no, () -> x.number(17, no), OUTSIDE);
        }
        int[] notTenths = {-1, 11, Integer.MIN_VALUE, Integer.MAX_VALUE};
        for (int no : notTenths) {
            due.refused(x, "answers " + no, () -> x.answers(no, 1, 0, 0), GONE_OUTSIDE);
            due.refused(x, "answers, " + no, () -> x.answers(1, no, 0, 0), GONE_OUTSIDE);
        }
        int[] notNumbers = {-1, 10000, Integer.MIN_VALUE, Integer.MAX_VALUE};
        for (int no : notNumbers) {
            due.refused(x, "number " + no, () -> x.number(no, 0), OUTSIDE);
            due.refused(x, "year " + no, () -> x.year(no, 1, 0), OUTSIDE);
            due.refused(x, "year, " + no, () -> x.year(1, no, 0), OUTSIDE);
            due.refused(x, "year, , " + no, () -> x.year(1, 1, no), OUTSIDE);
            due.refused(x, "told " + no, () -> x.told(no), OUTSIDE);
        }
        due.refused(x, "number 1000", () -> x.number(1000, 0), OUTSIDE);
        due.refused(x, "year of no acts", () -> x.year(1, 0, 0), OUTSIDE);
        due.refused(x, "year of 100 acts", () -> x.year(1, 100, 0), OUTSIDE);
        due.refused(x, "year, , 3", () -> x.year(1, 1, 3), OUTSIDE);
        int[] notTold = {6, 9, 14, 99, 300};
        for (int no : notTold) {
            due.refused(x, "told " + no, () -> x.told(no), OUTSIDE);
        }
    }

    private static void sightsAndImages() {
        LastTrain x = lived();
        for (int no : NO_ONES) {
            due.refused(x, "rung " + no, () -> x.rung(no, true), UNKNOWN);
        }
        int[] notImages = {-1, 2, Integer.MIN_VALUE, Integer.MAX_VALUE};
        for (int no : notImages) {
            due.refused(x, "image " + no, () -> x.image(no), OUTSIDE);
            due.refused(x, "restore " + no, () -> x.restore(no), OUTSIDE);
        }
        due.refused(x, "restore 0", () -> x.restore(0), STATE);
        due.refused(x, "restore 1", () -> x.restore(1), STATE);
        x.image(1);
        due.refused(x, "restore 0 beside 1", () -> x.restore(0), STATE);
        for (int i = 0; i < 7; i++) {
            x.rung(1, true);
        }
        due.refused(x, "a ninth sight", () -> x.rung(0, false), FULL);
        due.refused(x, "a ninth sight, unknown", () -> x.rung(10, false), UNKNOWN);
        // Nobody fits any more, but what is outside is looked at first.
        x.forget();
        x.rung(0, true);
        x.rung(0, false);
        due.refused(x, "ring, nobody fits", () -> x.ring(0), LastTrain.NONE);
        due.refused(x, "ring 2, nobody fits", () -> x.ring(2), OUTSIDE);
    }

    private static void months(String text, int refusal) {
        LastTrain x = lived();
        Due.write(x, text);
        due.refused(x, text + ": judge(2)", () -> x.judge(2), refusal);
        due.refused(x, text + ": judge(3)", () -> x.judge(3), OUTSIDE);
        if (refusal == NO) {
            due.refused(x, text + ": judge(0)", () -> x.judge(0), NO);
            due.refused(x, text + ": judge(1)", () -> x.judge(1), NO);
        }
        for (int what = 0; what < 5; what++) {
            int asked = what;
            due.refused(x, text + ": behind", () -> x.behind(0, asked), refusal);
            due.refused(x, text + ": city", () -> x.city(asked), asked < 3 ? refusal : OUTSIDE);
            due.refused(x, text + ": taken", () -> x.taken(asked), asked < 2 ? refusal : OUTSIDE);
        }
        due.refused(x, text + ": behind 10", () -> x.behind(10, 0), UNKNOWN);
        due.refused(x, text + ": behind, 5", () -> x.behind(9, 5), OUTSIDE);
        due.refused(x, text + ": done", () -> x.done(), refusal);
        due.is(text + ": signs", x.told(0), text.length());
    }

    private static void fullPad() {
        LastTrain x = lived();
        x.wipe();
        for (int i = 0; i < 60; i++) {
            x.say("A+B".charAt(i % 3));
        }
        due.refused(x, "a sign too many", () -> x.say('.'), FULL);
        due.refused(x, "no sign, too many", () -> x.say(32), OUTSIDE);
        due.is("the full pad is read", x.judge(0), 0);
        due.is("the full pad is read", x.judge(1), 3);
    }
}
