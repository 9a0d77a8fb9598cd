import java.util.function.Supplier;
import java.util.function.ToLongFunction;

/** Which refusal is told where two fit or more, in the document's order; a refused call changes nothing. */
public final class RefusalsTest {
    private static final int UNKNOWN = -1, OUTSIDE = -2, STATE = -3, FULL = -4, NO = -5, NONE = -6;
    private static final long GONE_OUTSIDE = -1000000000000000002L;
    private static final int[] NO_ONES = {-1, 10, Integer.MIN_VALUE, Integer.MAX_VALUE};
    // A fault behind months that can be, behind ones that can not, and at the end; then acts that can not be.
    private static final String[] FAULTY = {"B>.!", "A+B~K", "..A", "A-", "A", "D-HE$"};
    private static final String[] STUCK = {"..", "Ed", "A+E", "D-H", "CdC+C", "B>.B>.."};

    private static final Due due = new Due();

    public static void main(String[] args) {
        people();
        fullPad();
        for (String text : FAULTY) {
            months(text, NO);
        }
        for (String text : STUCK) {
            months(text, STATE);
        }
        people34();
        fractions();
        sights();
        images();
        padElsewhere();
        due.end();
    }

    private static void refused(String call, ToLongFunction<LastTrain> answer, long want) {
        due.refused(Lived::made, call, answer, want);
    }

    private static void people() {
        for (int no : NO_ONES) {
            refused("2 no one, no kind", x -> x.tie(no, 1, 4, 1), UNKNOWN);
            refused("2 no other one, too strong", x -> x.tie(1, no, 0, 10), UNKNOWN);
            refused("2 nobody, nothing as told", x -> x.tie(no, no, -1, -1), UNKNOWN);
            refused("3 no one, neither here nor away", x -> x.one(no, 2, 0), UNKNOWN);
            refused("3 no one, no dog as told", x -> x.one(no, 0, -1), UNKNOWN);
            refused("4 no law, nothing as told", x -> x.law(no < 0 ? no : 4, 10), OUTSIDE);
        }
        refused("2 both one, no kind", x -> x.tie(3, 3, 4, 1), UNKNOWN);
        refused("2 both one, too strong", x -> x.tie(3, 3, 0, 10), UNKNOWN);
        refused("2 no kind, too strong", x -> x.tie(3, 4, 4, 10), OUTSIDE);
        refused("3 here as told, no dog as told", x -> x.one(0, 0, 2), OUTSIDE);
        refused("3 dog as told, not here as told", x -> x.one(0, 2, 1), OUTSIDE);
        refused("4 debts as of enough", x -> x.law(2, 2), OUTSIDE);
        refused("4 enough as of debts", x -> x.law(0, 0), OUTSIDE);
    }

    private static void fullPad() {
        Supplier<LastTrain> full = () -> Lived.made("A-B".repeat(20));
        int[] noSigns = {32, 127, -1, 0, Integer.MIN_VALUE, Integer.MAX_VALUE};
        for (int sign : noSigns) {
            due.refused(full, "5 no sign, and full", x -> x.say(sign), OUTSIDE);
        }
        due.refused(full, "5 full", x -> x.say('.'), FULL);
        due.refused(full, "5 full, twice", x -> Math.max(x.say('A'), x.say('~')), FULL);
        LastTrain x = full.get();
        x.say('.');
        due.is("7 what was not taken is no fault", x.fault(), NONE);
        due.is("6 nor does it count", x.wipe(), 60);
        LastTrain open = Lived.made("A-B".repeat(19) + "A-");
        due.is("5 one less is not full", open.say('B'), 60);
        due.is("5 but this is", open.say('B'), FULL);
    }

    private static void months(String text, int refusal) {
        Supplier<LastTrain> made = () -> Lived.made(text);
        int[] noWhats = {-1, 5, Integer.MIN_VALUE, Integer.MAX_VALUE};
        for (int no : noWhats) {
            due.refused(made, "8 no what, " + text, x -> x.judge(no), OUTSIDE);
            due.refused(made, "9 no what, " + text, x -> x.behind(0, no), OUTSIDE);
            due.refused(made, "9 nobody, no what, " + text, x -> x.behind(no < 0 ? no : 10, no), UNKNOWN);
            due.refused(made, "9 nobody, " + text, x -> x.behind(no < 0 ? no : 10, 0), UNKNOWN);
            due.refused(made, "10 no what, " + text, x -> x.city(no), OUTSIDE);
            due.refused(made, "11 no what, " + text, x -> x.taken(no), OUTSIDE);
        }
        due.refused(made, "8 what 3, " + text, x -> x.judge(3), OUTSIDE);
        due.refused(made, "10 what 3, " + text, x -> x.city(3), OUTSIDE);
        due.refused(made, "11 what 2, " + text, x -> x.taken(2), OUTSIDE);
        if (refusal == NO) {
            due.refused(made, "8 act of " + text, x -> x.judge(0), NO);
            due.refused(made, "8 why of " + text, x -> x.judge(1), NO);
        } else {
            due.is("8 act of " + text, made.get().judge(0) >= 0 ? 1 : 0, 1);
            due.is("8 why of " + text, made.get().judge(1) >= 1 ? 1 : 0, 1);
        }
        due.refused(made, "8 how many of " + text, x -> x.judge(2), refusal);
        for (int what = 0; what < 5; what++) {
            int asked = what;
            due.refused(made, "9 behind " + text, x -> x.behind(0, asked), refusal);
            // Whoever is away is a ONE as well.
            due.refused(made, "9 behind " + text + " of who is away", x -> x.behind(4, asked), refusal);
        }
        for (int what = 0; what < 3; what++) {
            int asked = what;
            due.refused(made, "10 city, " + text, x -> x.city(asked), refusal);
        }
        due.refused(made, "11 act, " + text, x -> x.taken(0), refusal);
        due.refused(made, "11 who, " + text, x -> x.taken(1), refusal);
        due.refused(made, "12 done, " + text, LastTrain::done, refusal);
        due.is("12 the pad is as it was", afterDone(made.get()), text.length());
    }

    private static int afterDone(LastTrain x) {
        x.done();
        return x.told(0);
    }

    private static void people34() {
        int[] notHere = {4, 6, -1, 10, Integer.MIN_VALUE, Integer.MAX_VALUE};
        for (int one : notHere) {
            refused("14 not in the city, no what", x -> x.keep(one, 2), UNKNOWN);
            refused("15 not in the city, no what", x -> x.loose(one, -1), UNKNOWN);
        }
        refused("14 by none, no what", x -> x.keep(0, 2), OUTSIDE);
        due.refused(RefusalsTest::dogIsEnough, "15 none, no what", x -> x.loose(0, 2), OUTSIDE);
        refused("16 no seats as told, no what", x -> x.seats(10, 2), OUTSIDE);
        refused("18 no odds", x -> x.order(-1), OUTSIDE);
        refused("24 none, no what", x -> x.number(0, 2), OUTSIDE);
        refused("24 no number, no what", x -> x.number(1000, -1), OUTSIDE);
        refused("25 nothing as told", x -> x.year(10000, 100, 3), OUTSIDE);
        refused("25 a seed as told alone", x -> x.year(1, 0, 3), OUTSIDE);
    }

    private static LastTrain dogIsEnough() {
        LastTrain x = new LastTrain();
        x.one(0, 1, 1);
        return x;
    }

    private static void fractions() {
        refused("17 no odds, no part", x -> x.calls(1000000, 2), GONE_OUTSIDE);
        refused("17 no odds, upper", x -> x.calls(-1, 0), GONE_OUTSIDE);
        refused("17 no part", x -> x.calls(0, 2), GONE_OUTSIDE);
        refused("23 nothing as told", x -> x.answers(11, 11, 2, 2), GONE_OUTSIDE);
        refused("23 of too many, lower", x -> x.answers(11, 0, 0, 1), GONE_OUTSIDE);
        refused("23 of nobody, by too many tenths", x -> x.answers(0, 11, 0, 0), GONE_OUTSIDE);
        due.is("GONE and OUTSIDE", GONE_OUTSIDE, LastTrain.GONE + LastTrain.OUTSIDE);
    }

    private static LastTrain fullSights() {
        LastTrain x = Lived.made();
        for (int sight = 4; sight <= 8; sight++) {
            due.is("19 sight", x.rung(7, false), sight);
        }
        return x;
    }

    private static void sights() {
        for (int no : NO_ONES) {
            due.refused(RefusalsTest::fullSights, "19 nobody, and full", x -> x.rung(no, true), UNKNOWN);
            refused("19 nobody", x -> x.rung(no, false), UNKNOWN);
        }
        // Who is told a ninth sight of would not fit any more: all still do.
        due.refused(RefusalsTest::fullSights, "19 a ninth, yes", x -> x.rung(0, true), FULL);
        due.refused(RefusalsTest::fullSights, "19 a ninth, no", x -> x.rung(1, false), FULL);
        int[] noWhats = {-1, 2, Integer.MIN_VALUE, Integer.MAX_VALUE};
        for (int no : noWhats) {
            due.refused(RefusalsTest::nobodyFits, "22 nobody fits, no what", x -> x.ring(no), OUTSIDE);
        }
        due.refused(RefusalsTest::nobodyFits, "22 nobody fits", x -> x.ring(0), NONE);
        LastTrain x = fullSights();
        x.rung(0, true);
        x.forget();
        x.rung(7, false);
        due.is("21 of a sight that was refused nothing is left", x.who(), 1023);
    }

    private static LastTrain nobodyFits() {
        LastTrain x = Lived.made();
        x.rung(7, true);
        return x;
    }

    private static void images() {
        int[] noImages = {-1, 2, Integer.MIN_VALUE, Integer.MAX_VALUE};
        for (int no : noImages) {
            due.refused(LastTrain::new, "26 no image", x -> x.image(no), OUTSIDE);
            due.refused(LastTrain::new, "27 no image, none kept", x -> x.restore(no), OUTSIDE);
            refused("27 no image", x -> x.restore(no), OUTSIDE);
        }
        due.refused(LastTrain::new, "27 none kept", x -> x.restore(0), STATE);
        due.refused(LastTrain::new, "27 none kept", x -> x.restore(1), STATE);
        for (int k = 0; k < 2; k++) {
            int kept = k;
            due.refused(() -> keptAlone(kept), "27 the other one is kept", x -> x.restore(1 - kept), STATE);
            due.is("27 this one is kept", keptAlone(k).restore(k), 1);
        }
    }

    private static LastTrain keptAlone(int k) {
        LastTrain x = new LastTrain();
        x.tie(0, 1, 0, 5);
        x.image(k);
        x.tie(0, 1, 1, 6);
        return x;
    }

    /** NO and STATE are told by the calls of 2 alone: what is on the pad is nothing to the others. */
    private static void padElsewhere() {
        String[] texts = {"A", "A+BK", "..", "Ed"};
        for (String text : texts) {
            LastTrain x = Lived.made(text);
            due.is("13 beside " + text, x.stays(1), 2);
            due.is("14 beside " + text, x.keep(9, 0), 2);
            due.is("15 beside " + text, x.loose(9, 1), 32);
            due.is("16 beside " + text, x.seats(9, 0), 6);
            due.is("21 beside " + text, x.who(), 5);
            due.is("22 beside " + text, x.ring(1), 2);
            due.is("25 beside " + text, x.year(7, 99, 0), Lived.made().year(7, 99, 0));
            due.is("2 beside " + text, x.tie(0, 1, 0, 1), 9);
            due.is("3 beside " + text, x.one(4, 1, 0), 9);
            due.is("4 beside " + text, x.law(0, 1), 2);
            due.is("19 beside " + text, x.rung(0, true), 4);
            due.is("20 beside " + text, x.forget(), 4);
            due.is("26 beside " + text, x.image(0), 1);
            due.is("27 beside " + text, x.restore(1), 1);
            due.is("28 the pad is as it was, " + text, x.told(0), text.length());
        }
    }
}
