import java.util.function.ToLongBiFunction;

/**
 * Each range that the document names, by the promise's number: the least and the greatest are taken; one below,
 * one above and what is far outside is refused, and changes nothing.
 */
public final class RangesTest {
    private static final int UNKNOWN = -1, OUTSIDE = -2, NONE = -6;
    private static final long GONE_OUTSIDE = -1000000000000000002L;

    private static final Due due = new Due();

    public static void main(String[] args) {
        promise2tie();
        promise3one();
        promise4law();
        promise5say();
        promise7letters();
        promises8to12months();
        promises13to16people();
        promises17and18six();
        promises19to22sights();
        promise23answers();
        promises24and25numbers();
        promises26and27images();
        promise28told();
        due.end();
    }

    /** A range of one number of a call, asked of an object that has lived, with such months on its pad. */
    private static void range(String name, String months, long refusal, int least, long atLeast, int most, long atMost,
            ToLongBiFunction<LastTrain, Integer> call) {
        due.is(name + " " + least, call.applyAsLong(Lived.made(months), least), atLeast);
        due.is(name + " " + most, call.applyAsLong(Lived.made(months), most), atMost);
        int[] outside = {least - 1, most + 1, least - 256, most + 256, least - 65536, most + 65536,
            Integer.MIN_VALUE, Integer.MIN_VALUE + 1, Integer.MAX_VALUE - 1, Integer.MAX_VALUE};
        for (int v : outside) {
            due.refused(() -> Lived.made(months), name + " " + v, x -> call.applyAsLong(x, v), refusal);
        }
    }

    private static void promise2tie() {
        range("2 tie of", "", UNKNOWN, 0, 0, 9, 7, (x, v) -> x.tie(v, 5, 0, 1));
        range("2 tie to", "", UNKNOWN, 0, 0, 9, 7, (x, v) -> x.tie(5, v, 0, 1));
        range("2 tie, kind", "", OUTSIDE, 0, 9, 3, 9, (x, v) -> x.tie(0, 1, v, 5));
        range("2 tie, strong by", "", OUTSIDE, 0, 9, 9, 9, (x, v) -> x.tie(0, 1, 0, v));
        for (int one = 0; one < 10; one++) {
            int same = one;
            due.refused(Lived::made, "2 tie of both " + one, x -> x.tie(same, same, 0, 1), UNKNOWN);
        }
        LastTrain x = new LastTrain();
        x.tie(0, 9, 0, 9);
        x.tie(4, 5, 3, 0);
        due.is("2 the least kind, the greatest strength", x.told(109) + 10 * x.told(209), 9);
        due.is("2 the greatest kind, the least strength", x.told(145) + 10 * x.told(245), 30);
    }

    private static void promise3one() {
        range("3 one", "", UNKNOWN, 0, 8, 9, 8, (x, v) -> x.one(v, 1, 0));
        range("3 one, here", "", OUTSIDE, 0, 7, 1, 8, (x, v) -> x.one(0, v, 0));
        range("3 one, dog", "", OUTSIDE, 0, 8, 1, 8, (x, v) -> x.one(0, 1, v));
        LastTrain x = new LastTrain();
        x.one(0, 0, 1);
        x.one(9, 0, 0);
        due.is("3 the first and the last are away", x.told(1), 0b0111111110);
        due.is("3 a dog of the first", x.told(2), 1);
        x.one(9, 1, 1);
        x.one(0, 1, 0);
        due.is("3 both are back", x.told(1), 1023);
        due.is("3 a dog of the last", x.told(2), 512);
    }

    private static void promise4law() {
        range("4 law", "", OUTSIDE, 0, 2, 3, 0, (x, v) -> x.law(v, 1));
        range("4 law, enough", "", OUTSIDE, 1, 2, 9, 2, (x, v) -> x.law(0, v));
        range("4 law, from", "", OUTSIDE, 1, 2, 9, 2, (x, v) -> x.law(1, v));
        range("4 law, debts", "", OUTSIDE, 0, 1, 1, 1, (x, v) -> x.law(2, v));
        range("4 law, dogs", "", OUTSIDE, 0, 0, 1, 0, (x, v) -> x.law(3, v));
        int[] most = {9, 9, 1, 1};
        for (int which = 0; which < 4; which++) {
            LastTrain x = new LastTrain();
            int least = which < 2 ? 1 : 0;
            x.law(which, most[which]);
            due.is("4 the greatest of law " + which, x.told(10 + which), most[which]);
            due.is("4 which it was, " + which, x.law(which, least), most[which]);
            due.is("4 the least of law " + which, x.told(10 + which), least);
        }
    }

    private static void promise5say() {
        range("5 say", "", OUTSIDE, 33, 1, 126, 1, LastTrain::say);
        range("5 say after two", "A>", OUTSIDE, 33, 3, 126, 3, LastTrain::say);
        for (int sign = 33; sign <= 126; sign++) {
            due.is("5 any sign: " + sign, new LastTrain().say(sign), 1);
        }
    }

    private static void promise7letters() {
        due.is("7 ahead of A", Due.months("@d").fault(), 0);
        due.is("7 after J", Due.months("Kd").fault(), 0);
        due.is("7 the other, ahead of A", Due.months("B+@").fault(), 2);
        due.is("7 the other, after J", Due.months("B+K").fault(), 2);
        for (char one = 'A'; one <= 'J'; one++) {
            due.is("7 " + one, Due.months(one + "d" + one + ">").fault(), NONE);
            due.is("7 both " + one, Due.months("E-" + one + one + "$E").fault(), NONE);
        }
        String acts = "+-$d>";
        for (char sign = 33; sign <= 126; sign++) {
            boolean letter = sign >= 'A' && sign <= 'J';
            due.is("7 first sign " + sign, Due.months("" + sign).fault(), letter ? 1 : sign == '.' || sign == '~' ? NONE : 0);
            int after = sign == 'd' || sign == '>' ? NONE : acts.indexOf(sign) >= 0 ? 2 : 1;
            due.is("7 sign behind a letter " + sign, Due.months("A" + sign).fault(), after);
            due.is("7 sign behind a deed " + sign, Due.months("A$" + sign).fault(), letter ? NONE : 2);
        }
    }

    /** A, F, J wait with B; B and J are missed, and A and F go by act 1. */
    private static void promises8to12months() {
        range("8 judge", "B>.", OUTSIDE, 0, NONE, 2, 2, LastTrain::judge);
        range("9 behind", "B>.", UNKNOWN, 0, 0, 9, 1, (x, v) -> x.behind(v, 0));
        range("9 behind, what", "B>.", OUTSIDE, 0, 1, 4, 4, (x, v) -> x.behind(1, v));
        range("10 city", "B>.", OUTSIDE, 0, 0b1110001110, 2, 16, LastTrain::city);
        range("11 taken", "B>.", OUTSIDE, 0, 1, 1, 0, LastTrain::taken);
    }

    /** A's only tie of use is to B, J has two of them, to F and to I; ENOUGH is 2. */
    private static void promises13to16people() {
        range("13 stays", "", OUTSIDE, 0, 0, 1, 2, LastTrain::stays);
        range("14 keep", "", UNKNOWN, 0, NONE, 9, 2, (x, v) -> x.keep(v, 0));
        range("14 keep, what", "", OUTSIDE, 0, 2, 1, 0b0100100000, (x, v) -> x.keep(9, v));
        range("15 loose", "", UNKNOWN, 0, 0, 9, 1, (x, v) -> x.loose(v, 0));
        range("15 loose, what", "", OUTSIDE, 0, 1, 1, 0b0000100000, (x, v) -> x.loose(9, v));
        range("16 seats", "", OUTSIDE, 0, 0, 9, 6, (x, v) -> x.seats(v, 0));
        range("16 seats, what", "", OUTSIDE, 0, 6, 1, 0b0110101101, (x, v) -> x.seats(9, v));
        int[] away = {4, 6};
        for (int one : away) {
            due.refused(Lived::made, "14 keep of who is away", x -> x.keep(one, 0), UNKNOWN);
            due.refused(Lived::made, "15 loose of who is away", x -> x.loose(one, 0), UNKNOWN);
        }
    }

    private static void promises17and18six() {
        range("17 calls", "", GONE_OUTSIDE, 0, 6, 999999, 111111, (x, v) -> x.calls(v, 0));
        range("17 calls, lower", "", GONE_OUTSIDE, 0, 1, 999999, 100000, (x, v) -> x.calls(v, 1));
        range("17 calls, part", "", GONE_OUTSIDE, 0, 63, 1, 32, (x, v) -> x.calls(555555, v));
        range("18 order", "", OUTSIDE, 0, 12345, 999999, 12345, LastTrain::order);
        due.is("18 the least odds that are not 0", new LastTrain().order(1), 501234);
        due.is("18 the last ahead of the greatest odds", new LastTrain().order(999998), 12345);
    }

    private static void promises19to22sights() {
        range("19 rung", "", UNKNOWN, 0, 4, 9, 4, (x, v) -> x.rung(v, true));
        range("22 ring", "", OUTSIDE, 0, 0, 1, 2, LastTrain::ring);
    }

    private static void promise23answers() {
        range("23 answers of", "", GONE_OUTSIDE, 0, 0, 10, 509, (x, v) -> x.answers(v, 5, 1, 0));
        range("23 answers by tenths", "", GONE_OUTSIDE, 0, 0, 10, 1, (x, v) -> x.answers(3, v, 0, 0));
        range("23 answers, what", "", GONE_OUTSIDE, 0, 1, 1, 11, (x, v) -> x.answers(3, 5, v, 0));
        range("23 answers, part", "", GONE_OUTSIDE, 0, 11, 1, 4, (x, v) -> x.answers(3, 5, 1, v));
    }

    private static void promises24and25numbers() {
        range("24 number", "", OUTSIDE, 0, 0, 999, 1, (x, v) -> x.number(v, 0));
        range("24 number, which digit", "", OUTSIDE, 0, NONE, 999, 9, (x, v) -> x.number(v, 1));
        range("24 number, what", "", OUTSIDE, 0, 1, 1, 7, (x, v) -> x.number(17, v));
        range("25 year by", "", OUTSIDE, 0, 22, 9999, 22, (x, v) -> x.year(v, 1, 1));
        range("25 year of", "", OUTSIDE, 1, 8, 99, 1, (x, v) -> x.year(7, v, 0));
        range("25 year, what", "", OUTSIDE, 0, 1, 2, 30, (x, v) -> x.year(7, 99, v));
        // 74: E and H meet; 29092: C and J quarrel.
        due.is("25 the least seed", new LastTrain().year(0, 1, 1), 2);
        LastTrain x = new LastTrain();
        x.tie(2, 9, 0, 5);
        due.is("25 the greatest seed", x.year(9999, 1, 1), 2);
    }

    private static void promises26and27images() {
        range("26 image", "", OUTSIDE, 0, 1, 1, 1, LastTrain::image);
        range("27 restore", "", OUTSIDE, 0, 1, 1, 1, LastTrain::restore);
        LastTrain x = Lived.made();
        x.restore(0);
        due.is("27 the first image", x.told(159), 0);
        x.restore(1);
        due.is("27 the second image", x.told(159), 6);
    }

    private static void promise28told() {
        int[] outside = {-1, 6, 9, 14, 99, 300, -256, 256 + 300, 65536, Integer.MIN_VALUE, Integer.MAX_VALUE};
        for (int what : outside) {
            due.refused(() -> Lived.made("B>."), "28 told " + what, x -> x.told(what), OUTSIDE);
        }
        LastTrain x = Lived.made("B>.");
        for (int what = 6; what < 100; what += what == 9 ? 5 : 1) {
            due.is("28 told " + what, x.told(what), OUTSIDE);
        }
        // Signs, who is in the city, dogs, who waits, who is missed, sights: then the law.
        int[] first = {3, 0b1110101111, 0b0000011000, 0b1000100001, 0b1000000010, 3};
        int[] law = {2, 2, 1, 0};
        for (int what = 0; what < first.length; what++) {
            due.is("28 told " + what, x.told(what), first[what]);
        }
        for (int which = 0; which < law.length; which++) {
            due.is("28 told " + (10 + which), x.told(10 + which), law[which]);
        }
        due.is("28 told 100", x.told(100), 0);
        due.is("28 told 101", x.told(101), 9);
        due.is("28 told 198", x.told(198), 2);
        due.is("28 told 199", x.told(199), 0);
        due.is("28 told 200", x.told(200), NONE);
        due.is("28 told 201", x.told(201), 0);
        due.is("28 told 298", x.told(298), 1);
        due.is("28 told 299", x.told(299), NONE);
        for (int one = 0; one < 10; one++) {
            due.is("28 of itself, strong", x.told(100 + 11 * one), 0);
            due.is("28 of itself, kind", x.told(200 + 11 * one), NONE);
        }
    }
}
