/** Where a call answers NONE: a case in which it does, and the nearest in which it does not. */
public final class NoneTest {
    private static final int UNKNOWN = -1, STATE = -3, NO = -5, NONE = -6;

    private static final Due due = new Due();

    public static void main(String[] args) {
        fault();
        judged();
        missed();
        taken();
        kept();
        loosened();
        rungNext();
        digitTaken();
        kindOfItself();
        due.end();
    }

    private static void fault() {
        due.is("7 no signs", Due.months("").fault(), NONE);
        due.is("7 one sign, and more must come", Due.months("A").fault(), 1);
        due.is("7 a whole act", Due.months("Ad").fault(), NONE);
        due.is("7 an act and a sign too many", Due.months("Ad>").fault(), 2);
        due.is("7 an act of two", Due.months("A-B").fault(), NONE);
        due.is("7 an act of two without the other", Due.months("A-").fault(), 2);
        due.is("7 a night", Due.months(".").fault(), NONE);
        due.is("7 no night", Due.months("/").fault(), 0);
        due.is("7 a month", Due.months("~").fault(), NONE);
        due.is("7 no month", Due.months("}").fault(), 0);
        due.is("7 whether it can be is no fault", Due.months("A-A.~").fault(), NONE);
    }

    private static void judged(String text, int act, int why) {
        LastTrain x = new LastTrain();
        x.tie(0, 1, 0, 7);
        x.tie(2, 3, 3, 1);
        x.one(4, 0, 0);
        Due.say(x, text);
        due.is("8 act of " + text, x.judge(0), act);
        due.is("8 why of " + text, x.judge(1), why);
    }

    private static void judged() {
        judged("", NONE, NONE);
        judged("A+B", NONE, NONE);
        judged("A+BA+B", 1, 3);
        judged("C-D", NONE, NONE);
        judged("C-DC-D", 1, 3);
        judged("C$D", NONE, NONE);
        judged("C$DD$C", 1, 3);
        judged("Fd", NONE, NONE);
        judged("Ed", 0, 1);
        judged("F+G", NONE, NONE);
        judged("F+E", 0, 1);
        judged("F+F", 0, 2);
        judged("A>.", NONE, NONE);
        judged("A>..", 2, 4);
        judged("~~~~~~~", NONE, NONE);
        judged("~~~~~~~~", 7, 5);
        judged("A", NO, NO);
        due.is("8 how many is told where all can be", Due.months("A>.").judge(2), 1);
        due.is("8 how many is not told where it can not", Due.months("A>..").judge(2), STATE);
    }

    private static void missed() {
        LastTrain x = new LastTrain();
        x.tie(1, 2, 0, 4);
        Due.say(x, "A>B>.");
        due.is("9 it went", x.behind(0, 3), NONE);
        due.is("9 it is missed, and stayed", x.behind(1, 3), 1);
        due.is("9 it is not missed, but did not wait", x.behind(3, 3), 0);
        Due.write(x, "A>B>");
        due.is("9 it waits still", x.behind(0, 3), 0);
        x.one(0, 0, 1);
        x.wipe();
        due.is("9 it is away", x.behind(0, 3), NONE);
        due.is("9 its dog is told all the same", x.behind(0, 1), 1);
        due.is("9 its strength too", x.behind(0, 4), 0);
        x.one(0, 1, 1);
        due.is("9 it is here", x.behind(0, 3), 1);
    }

    private static void taken(String text, int act, int who) {
        LastTrain x = new LastTrain();
        x.tie(0, 1, 0, 4);
        x.one(2, 1, 1);
        Due.say(x, text);
        due.is("11 act of " + text, x.taken(0), act);
        due.is("11 who of " + text, x.taken(1), who);
    }

    private static void taken() {
        taken("", NONE, NONE);
        taken("J>", NONE, NONE);
        taken("J>.", 1, 9);
        taken("A>B>.", NONE, NONE);
        taken("A>B>D>.", 3, 3);
        taken("A>A-BA-B.", 3, 0);
        taken("C>.", NONE, NONE);
        taken("CdC>.", 2, 2);
        taken("C>.C>CdD>E>.", 6, 2);
        LastTrain x = new LastTrain();
        x.one(0, 0, 0);
        due.is("11 who is away from the first on was not taken", x.taken(1), NONE);
    }

    private static void kept(LastTrain x, int one, int howMany, int who) {
        due.is("14 how many", x.keep(one, 0), howMany);
        due.is("14 who", x.keep(one, 1), who);
    }

    private static void kept() {
        LastTrain x = new LastTrain();
        kept(x, 0, NONE, NONE);
        x.tie(0, 9, 0, 1);
        kept(x, 0, 0, 0);
        x.law(0, 2);
        kept(x, 0, NONE, NONE);
        x.tie(0, 8, 3, 1);
        kept(x, 0, 2, 0b1100000000);
        x.law(2, 0);
        kept(x, 0, NONE, NONE);
        x.one(0, 1, 1);
        kept(x, 0, 1, 0b1000000000);
        x.law(3, 0);
        kept(x, 0, NONE, NONE);
        x.law(2, 1);
        kept(x, 0, 2, 0b1100000000);
        x.law(1, 2);
        kept(x, 0, NONE, NONE);
        x.law(1, 1);
        x.one(9, 0, 0);
        kept(x, 0, NONE, NONE);
        kept(x, 9, UNKNOWN, UNKNOWN);
    }

    private static void loosened(LastTrain x, int howMany, int with) {
        due.is("15 how many", x.loose(0, 0), howMany);
        due.is("15 with whom", x.loose(0, 1), with);
    }

    private static void loosened() {
        LastTrain x = new LastTrain();
        loosened(x, 0, 0);
        x.one(0, 1, 1);
        loosened(x, NONE, NONE);
        x.law(0, 2);
        loosened(x, 0, 0);
        x.tie(0, 5, 0, 1);
        loosened(x, 1, 0b100000);
        x.law(0, 1);
        loosened(x, NONE, NONE);
        x.law(3, 0);
        loosened(x, 1, 0b100000);
        x.law(3, 1);
        loosened(x, NONE, NONE);
        x.one(0, 1, 0);
        loosened(x, 1, 0b100000);
        x.one(0, 0, 1);
        loosened(x, UNKNOWN, UNKNOWN);
    }

    private static void rungNext() {
        LastTrain x = new LastTrain();
        x.tie(0, 1, 0, 1);
        x.rung(0, true);
        due.is("22 one fits", x.ring(0), 0);
        due.is("22 one fits", x.ring(1), 1);
        x.rung(1, true);
        due.is("22 nobody fits", x.ring(0), NONE);
        due.is("22 nobody fits", x.ring(1), NONE);
        x.tie(1, 0, 0, 0);
        x.forget();
        due.is("22 all fit", x.ring(1), 10);
        x.rung(0, true);
        due.is("22 nobody has a tie to it", x.ring(0), NONE);
        x.tie(0, 9, 3, 1);
        due.is("22 one has", x.ring(1), 1);
        x.law(1, 2);
        due.is("22 one has, but a weak one", x.ring(1), NONE);
    }

    private static void digitTaken() {
        LastTrain x = new LastTrain();
        for (int tens = 0; tens < 100; tens++) {
            due.is("24 " + tens + "0", x.number(10 * tens, 1), NONE);
            due.is("24 " + tens + "1", x.number(10 * tens + 1, 1), 1);
            due.is("24 " + tens + "9", x.number(10 * tens + 9, 1), 9);
        }
        due.is("24 it is told whether all the same", x.number(990, 0), 0);
    }

    private static void kindOfItself() {
        LastTrain x = new LastTrain();
        for (int one = 0; one < 10; one++) {
            for (int other = 0; other < 10; other++) {
                due.is("28 kind of " + one + " and " + other, x.told(200 + 10 * one + other), one == other ? NONE : 2);
                due.is("28 strength of both", x.told(100 + 10 * one + other), 0);
            }
        }
    }
}
