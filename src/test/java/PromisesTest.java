/** Each promise by examples worked out by hand: ordinary calls and the edges that the document names. */
public final class PromisesTest {
    private static final Due due = new Due();

    public static void main(String[] args) {
        promise1aNewObject();
        promise2tie();
        promise3one();
        promise4law();
        promise5say();
        promise6wipe();
        promise7fault();
        promise8judge();
        promise9behind();
        promise10city();
        promise11taken();
        promise12done();
        promise13stays();
        promise14keep();
        promise15loose();
        promise16seats();
        promise17calls();
        promise18order();
        promise19rung();
        promise20forget();
        promise21who();
        promise22ring();
        promise23answers();
        promise24number();
        promise25year();
        promise26image();
        promise27restore();
        promise28told();
        due.end();
    }

    private static void promise1aNewObject() {
        LastTrain x = new LastTrain();
        due.is("1 city", x.told(1), 1023);
        for (int what = 2; what <= 5; what++) {
            due.is("1 told " + what, x.told(what), 0);
        }
        for (int which = 10; which <= 13; which++) {
            due.is("1 law " + which, x.told(which), 1);
        }
        for (int one = 0; one < 10; one++) {
            for (int other = 0; other < 10; other++) {
                due.is("1 strength", x.told(100 + 10 * one + other), 0);
                due.is("1 kind", x.told(200 + 10 * one + other), one == other ? LastTrain.NONE : 2);
            }
        }
        due.is("1 pad", x.told(0), 0);
        due.is("1 no image", x.restore(0), LastTrain.STATE);
        due.is("1 no image", x.restore(1), LastTrain.STATE);
    }

    private static void promise2tie() {
        LastTrain x = new LastTrain();
        due.is("2 first", x.tie(3, 7, 0, 9), 0);
        due.is("2 again, from the other side", x.tie(7, 3, 3, 0), 9);
        due.is("2 at 0", x.told(137), 0);
        due.is("2 kind at 0", x.told(237), 3);
        due.is("2 kind at 0", x.told(273), 3);
        x.one(0, 0, 0);
        due.is("2 of one who is away", x.tie(0, 9, 1, 4), 0);
        due.is("2 of one who is away", x.told(190), 4);
        due.is("2 no other tie", x.told(109) + x.told(101) + x.told(119), 4);
    }

    private static void promise3one() {
        LastTrain x = new LastTrain();
        for (int one = 0; one < 10; one++) {
            due.is("3 away", x.one(one, 0, one % 2), 9 - one);
        }
        due.is("3 nobody in the city", x.told(1), 0);
        due.is("3 dogs of who is away", x.told(2), 0b1010101010);
        for (int one = 0; one < 10; one++) {
            due.is("3 back", x.one(one, 1, 0), one + 1);
        }
        due.is("3 dogs", x.told(2), 0);
        Due.say(x, "A>B>C>");
        x.done();
        x.one(0, 1, 0);
        x.one(1, 0, 0);
        due.is("3 none of them waits", x.told(3), 4);
        x.one(1, 1, 0);
        due.is("3 nor when it is back", x.told(3), 4);
    }

    private static void promise4law() {
        LastTrain x = new LastTrain();
        due.is("4 enough", x.law(0, 9), 1);
        due.is("4 enough", x.law(0, 1), 9);
        due.is("4 from", x.law(1, 9), 1);
        due.is("4 from", x.law(1, 2), 9);
        due.is("4 debts", x.law(2, 0), 1);
        due.is("4 dogs", x.law(3, 0), 1);
        due.is("4 dogs", x.law(3, 1), 0);
        due.is("4 told", x.told(10) + 10 * x.told(11) + 100 * x.told(12) + 1000 * x.told(13), 1021);
        x.tie(0, 1, 3, 2);
        x.tie(1, 2, 0, 1);
        x.one(4, 1, 1);
        due.is("4 no debts, from 2, dogs", x.told(4), 0b10000);
        x.law(2, 1);
        due.is("4 debts", x.told(4), 0b10011);
        x.law(1, 1);
        due.is("4 from 1", x.told(4), 0b10111);
        x.law(0, 2);
        due.is("4 enough 2", x.told(4), 0b00010);
        x.one(1, 1, 1);
        x.law(0, 3);
        due.is("4 a dog is as one more", x.told(4), 0b00010);
        x.law(3, 0);
        due.is("4 no dogs", x.told(4), 0);
        x.law(0, 1);
        x.one(0, 0, 0);
        x.one(2, 0, 0);
        due.is("4 who is away misses nobody", x.told(4), 0);
    }

    private static void promise5say() {
        LastTrain x = new LastTrain();
        due.is("5 first sign", x.say(33), 1);
        due.is("5 last code", x.say(126), 2);
        for (int i = 3; i <= 60; i++) {
            due.is("5 sign", x.say('.'), i);
        }
        due.is("5 full", x.say('.'), LastTrain.FULL);
        due.is("5 outside ahead of full", x.say(127), LastTrain.OUTSIDE);
        due.is("5 signs", x.told(0), 60);
    }

    private static void promise6wipe() {
        LastTrain x = Due.months("A+B.~");
        due.is("6 wiped", x.wipe(), 5);
        due.is("6 empty", x.wipe(), 0);
        due.is("6 no fault", x.fault(), LastTrain.NONE);
        for (int i = 1; i <= 60; i++) {
            x.say('~');
        }
        due.is("6 full pad", x.wipe(), 60);
        due.is("6 from the first on", x.say('~'), 1);
    }

    private static void fault(String text, int want) {
        due.is("7 fault of " + text, Due.months(text).fault(), want);
    }

    private static void promise7fault() {
        int none = LastTrain.NONE;
        fault("", none);
        fault(".", none);
        fault("~", none);
        fault("Ad", none);
        fault("J>", none);
        fault("A+A", none);
        fault("A-BJ$A.~Cd", none);
        fault("A", 1);
        fault("A+", 2);
        fault(".J$", 3);
        fault("K", 0);
        fault("@", 0);
        fault("a", 0);
        fault("d", 0);
        fault(">", 0);
        fault("+", 0);
        fault("AA", 1);
        fault("A.", 1);
        fault("A~", 1);
        fault("AD", 1);
        fault("A+K", 2);
        fault("A+.", 2);
        fault("A+d", 2);
        fault("A+B+C", 3);
        fault("AdB", 3);
        fault("..!A", 2);
        fault("A+BCdD>.~E", 10);
        LastTrain x = new LastTrain();
        for (int i = 0; i < 60; i++) {
            x.say(i < 59 ? '~' : 'A');
        }
        due.is("7 a full pad that wants more", x.fault(), 60);
        x.wipe();
        for (int i = 0; i < 60; i++) {
            x.say("A+B".charAt(i % 3));
        }
        due.is("7 a full pad", x.fault(), none);
    }

    private static void judged(String text, int act, int why) {
        LastTrain x = Due.months(text);
        due.is("8 act of " + text, x.judge(0), act);
        due.is("8 why of " + text, x.judge(1), why);
        due.is("8 how many of " + text, x.judge(2), LastTrain.STATE);
    }

    private static void promise8judge() {
        LastTrain empty = new LastTrain();
        due.is("8 empty", empty.judge(0), LastTrain.NONE);
        due.is("8 empty", empty.judge(1), LastTrain.NONE);
        due.is("8 empty", empty.judge(2), 0);
        judged("A>.A+B", 2, 1);
        judged("A>.B+A", 2, 1);
        judged("A>.A+A", 2, 1);
        judged("A>.Ad", 2, 1);
        judged("A>.A>", 2, 1);
        judged("A>.A-B", 2, 1);
        judged("A>.B$A", 2, 1);
        judged("A+A", 0, 2);
        judged("AdB-B", 1, 2);
        judged("C$C", 0, 2);
        judged("A-B", 0, 3);
        judged("A+BA-BA-B", 2, 3);
        judged("A+BA+BA+BA+BA+BB+A", 5, 3);
        judged("A$BB$A", 1, 3);
        judged("A$BB+A", 1, 3);
        judged(".", 0, 4);
        judged("A>A>.", 2, 4);
        judged("A>..", 2, 4);
        judged("~", 0, 5);
        judged("A$B~", 1, 5);
        judged("A+B~~~", 3, 5);
        judged("A+BA>B>C>.~~~", 7, 5);
        LastTrain x = Due.months("A>B>.C>C>D>.");
        due.is("8 three went", x.judge(2), 3);
        due.is("8 nothing that can not be", x.judge(0), LastTrain.NONE);
        due.is("8 nothing that can not be", x.judge(1), LastTrain.NONE);
        due.is("8 nothing is done", x.told(1), 1023);
        x = new LastTrain();
        x.tie(0, 1, 0, 9);
        Due.say(x, "A$BA-BA+B");
        due.is("8 a loan over a tie of 9", x.judge(0), LastTrain.NONE);
        due.is("8 debt at 8", x.behind(0, 4), 8);
        Due.say(x, "A$B");
        due.is("8 a loan over a debt of 8", x.judge(0), LastTrain.NONE);
        x = new LastTrain();
        x.tie(0, 1, 0, 1);
        x.one(0, 0, 0);
        Due.say(x, "~");
        due.is("8 no month for who is away", x.judge(1), 5);
    }

    private static void behind(LastTrain x, int one, int city, int dog, int waits, int missed, int strength) {
        int[] want = {city, dog, waits, missed, strength};
        for (int what = 0; what < want.length; what++) {
            due.is("9 behind " + one + " " + what, x.behind(one, what), want[what]);
        }
    }

    private static void promise9behind() {
        LastTrain x = Due.months("A+BB+CC$DEdF>G>Gd.");
        behind(x, 0, 1, 0, 0, 1, 2);
        behind(x, 1, 1, 0, 0, 1, 4);
        behind(x, 2, 1, 0, 0, 1, 11);
        behind(x, 3, 1, 0, 0, 1, 9);
        behind(x, 4, 1, 1, 0, 1, 0);
        behind(x, 5, 0, 0, 0, LastTrain.NONE, 0);
        behind(x, 6, 1, 1, 0, 1, 0);
        behind(x, 7, 1, 0, 0, 0, 0);
        x = Due.months("A>A+B");
        behind(x, 0, 1, 0, 1, 1, 2);
        x.law(1, 3);
        Due.say(x, ".");
        behind(x, 0, 0, 0, 0, LastTrain.NONE, 2);
        behind(x, 1, 1, 0, 0, 0, 0);
        x = Due.months("AdBdA>B>.");
        x.law(3, 0);
        behind(x, 0, 0, 1, 0, LastTrain.NONE, 0);
        x.wipe();
        behind(x, 0, 1, 0, 0, 0, 0);
    }

    private static void promise10city() {
        LastTrain x = Due.months("");
        due.is("10 empty", x.city(0), 1023);
        due.is("10 empty", x.city(1), 0);
        due.is("10 empty", x.city(2), 0);
        x.law(0, 2);
        x.tie(0, 1, 0, 5);
        x.tie(1, 2, 3, 4);
        x.tie(2, 0, 1, 3);
        x.tie(2, 3, 2, 7);
        x.tie(3, 4, 0, 6);
        due.is("10 missed", x.city(1), 0b1111);
        Due.say(x, "D>E>.");
        due.is("10 D stays, as E waits beside it", x.city(0), 0b1111101111);
        due.is("10 cut", x.city(2), 6);
        due.is("10 missed then", x.city(1), 0b0111);
        Due.say(x, "D>.");
        due.is("10 cut by two nights", x.city(2), 13);
        Due.write(x, "D>.E>.");
        due.is("10 D waits in vain", x.city(2), 6);
        x.law(0, 9);
        Due.write(x, "A>B>C>D>.");
        due.is("10 no cut among those who go", x.city(2), 6);
        due.is("10 who", x.city(0), 0b1111110000);
        Due.say(x, "E>.");
        due.is("10 no cut to who is away", x.city(2), 6);
    }

    private static void promise11taken() {
        LastTrain x = Due.months("AdA>.B>C>.D>.");
        due.is("11 A has a dog", x.taken(0), 5);
        due.is("11 the least", x.taken(1), 1);
        Due.write(x, "AdA>.");
        due.is("11 nobody", x.taken(0), LastTrain.NONE);
        due.is("11 nobody", x.taken(1), LastTrain.NONE);
        Due.write(x, "BdB>C>A>.");
        due.is("11 B has a dog, C goes and A", x.taken(1), 0);
        Due.write(x, "J>.");
        due.is("11 the last one", x.taken(0), 1);
        due.is("11 the last one", x.taken(1), 9);
        x.wipe();
        due.is("11 empty", x.taken(1), LastTrain.NONE);
    }

    private static void promise12done() {
        LastTrain x = Due.months("A+BA$CBdD>.~E>");
        x.rung(3, true);
        due.is("12 acts", x.done(), 7);
        due.is("12 pad", x.told(0), 0);
        due.is("12 city", x.told(1), 0b1111110111);
        due.is("12 dogs", x.told(2), 2);
        due.is("12 waits", x.told(3), 16);
        due.is("12 tie", x.told(110), 1);
        due.is("12 debt", x.told(102), 9);
        due.is("12 kind", x.told(220), 3);
        due.is("12 kind", x.told(201), 2);
        due.is("12 sights stay", x.told(5), 1);
        due.is("12 empty", x.done(), 0);
        Due.say(x, "Bd");
        due.is("12 dog", x.done(), 1);
        due.is("12 no dog any more", x.told(2), 0);
    }

    private static void promise13stays() {
        LastTrain x = new LastTrain();
        due.is("13 nobody is missed", x.stays(0), 0);
        due.is("13 one night", x.stays(1), 1);
        x.law(0, 2);
        // A chain that ends in a circle: it loses one each night.
        for (int one = 0; one < 6; one++) {
            x.tie(one, one + 1, 0, 5);
        }
        x.tie(4, 6, 0, 5);
        due.is("13 the circle stays", x.stays(0), 0b1110000);
        due.is("13 nights", x.stays(1), 4);
        x.one(0, 1, 1);
        due.is("13 a dog holds the chain", x.stays(0), 0b1111111);
        due.is("13 nights", x.stays(1), 1);
        x.law(3, 0);
        due.is("13 unless dogs do not count", x.stays(1), 4);
        Due.say(x, "A>B>C>");
        x.done();
        due.is("13 who waits now does not matter", x.stays(0), 0b1110000);
        due.is("13 all wait still", x.told(3), 7);
        Due.allAway(x);
        due.is("13 nobody in the city", x.stays(0), 0);
        due.is("13 nobody in the city", x.stays(1), 0);
        LastTrain chain = new LastTrain();
        chain.law(0, 2);
        for (int one = 0; one < 9; one++) {
            chain.tie(one, one + 1, 0, 5);
        }
        chain.one(0, 1, 1);
        due.is("13 a chain of ten, its head by a dog, its tail by nobody", chain.stays(1), 10);
    }

    private static void promise14keep() {
        LastTrain x = new LastTrain();
        due.is("14 by none", x.keep(0, 0), LastTrain.NONE);
        due.is("14 by none", x.keep(0, 1), LastTrain.NONE);
        x.law(0, 2);
        for (int one = 0; one < 4; one++) {
            x.tie(one, one + 1, 0, 5);
        }
        due.is("14 both ends", x.keep(2, 0), 2);
        due.is("14 the least two", x.keep(2, 1), 0b01001);
        due.is("14 its neighbours", x.keep(1, 1), 0b00101);
        due.is("14 an end", x.keep(0, 0), LastTrain.NONE);
        x.tie(0, 4, 0, 5);
        due.is("14 a ring of five stays by itself", x.keep(2, 0), 0);
        due.is("14 a ring of five stays by itself", x.keep(2, 1), 0);
        x.one(4, 0, 0);
        due.is("14 who is away", x.keep(4, 0), LastTrain.UNKNOWN);
        due.is("14 keeps nobody", x.keep(0, 0), LastTrain.NONE);
        x.law(0, 1);
        x.one(9, 1, 1);
        due.is("14 its dog", x.keep(9, 0), 0);
    }

    private static void promise15loose() {
        LastTrain x = new LastTrain();
        due.is("15 not missed", x.loose(0, 0), 0);
        due.is("15 not missed", x.loose(0, 1), 0);
        x.tie(0, 9, 3, 5);
        x.tie(0, 3, 0, 1);
        x.tie(0, 5, 1, 2);
        due.is("15 all", x.loose(0, 0), 3);
        due.is("15 all", x.loose(0, 1), 0b1000101000);
        x.law(0, 2);
        due.is("15 two", x.loose(0, 1), 0b101000);
        x.law(0, 3);
        due.is("15 the least one", x.loose(0, 1), 0b1000);
        x.law(0, 4);
        due.is("15 none", x.loose(0, 0), 0);
        x.law(0, 2);
        x.law(1, 2);
        due.is("15 only strong ones help", x.loose(0, 1), 0b100000);
        x.law(2, 0);
        due.is("15 debts do not count", x.loose(0, 0), 0);
        x.one(0, 1, 1);
        due.is("15 the dog counts", x.loose(0, 0), 1);
        x.law(0, 1);
        due.is("15 the dog is enough", x.loose(0, 0), LastTrain.NONE);
        due.is("15 the dog is enough", x.loose(0, 1), LastTrain.NONE);
        x.law(3, 0);
        due.is("15 dogs do not count", x.loose(0, 0), 1);
        due.is("15 of the other side", x.loose(5, 1), 1);
        x.one(5, 0, 0);
        due.is("15 who is away has no part", x.loose(0, 0), 0);
        due.is("15 of who is away", x.loose(5, 0), LastTrain.UNKNOWN);
    }

    private static void promise16seats() {
        LastTrain x = new LastTrain();
        due.is("16 nine", x.seats(9, 0), 9);
        due.is("16 nine", x.seats(9, 1), 511);
        due.is("16 no seat", x.seats(0, 0), 0);
        due.is("16 no seat", x.seats(0, 1), 0);
        x.law(1, 9);
        x.tie(0, 1, 3, 1);
        x.tie(0, 2, 0, 8);
        x.tie(0, 3, 0, 8);
        due.is("16 without A", x.seats(9, 1), 1022);
        due.is("16 three: A has a tie to each ahead of E", x.seats(3, 1), 0b1110);
        due.is("16 one", x.seats(1, 1), 1);
        x.one(3, 0, 0);
        x.tie(4, 5, 1, 9);
        due.is("16 of those here and not missed", x.seats(9, 1), 0b1111000110);
        x.tie(1, 2, 3, 1);
        due.is("16 one of three at most", x.seats(9, 1), 0b1111000001);
        due.is("16 how many", x.seats(9, 0), 5);
        Due.allAway(x);
        due.is("16 nobody", x.seats(9, 0), 0);
        x.one(2, 1, 1);
        due.is("16 by its dog it is missed", x.seats(9, 0), 0);
    }

    private static void mean(int odds, long upper, long lower) {
        LastTrain x = new LastTrain();
        due.is("17 upper of " + odds, x.calls(odds, 0), upper);
        due.is("17 lower of " + odds, x.calls(odds, 1), lower);
    }

    private static void promise17calls() {
        mean(0, 6, 1);
        mean(555555, 63, 32);
        mean(999999, 111111, 100000);
        mean(900000, 3, 2);
        mean(9, 3, 2);
        mean(500, 7, 2);
        // 1 + 5/10 + 5/10 8/10 4 times
        mean(200050, 31, 10);
        // 1 + .4 + .4 .5 + .4 .5 .6 + .4 .5 .6 .7 + .4 .5 .6 .7 .8
        mean(123456, 2339, 1250);
    }

    private static void order(int odds, int want) {
        due.is("18 order of " + odds, new LastTrain().order(odds), want);
    }

    private static void promise18order() {
        order(0, 12345);
        order(999999, 12345);
        order(123456, 543210);
        order(654321, 12345);
        order(900009, 51234);
        order(909090, 24135);
        order(1, 501234);
        order(10, 401235);
        order(121212, 135024);
    }

    private static void promise19rung() {
        LastTrain x = new LastTrain();
        for (int i = 1; i <= 8; i++) {
            due.is("19 sight", x.rung(i, i % 2 == 0), i);
        }
        due.is("19 full", x.rung(0, true), LastTrain.FULL);
        due.is("19 unknown ahead of full", x.rung(10, true), LastTrain.UNKNOWN);
        due.is("19 sights", x.told(5), 8);
        LastTrain away = new LastTrain();
        away.one(3, 0, 0);
        due.is("19 who is away can be rung", away.rung(3, false), 1);
    }

    private static void promise20forget() {
        LastTrain x = new LastTrain();
        due.is("20 none", x.forget(), 0);
        for (int i = 0; i < 8; i++) {
            x.rung(0, true);
        }
        due.is("20 nobody fits", x.who(), 0);
        due.is("20 eight", x.forget(), 8);
        due.is("20 all fit", x.who(), 1023);
        due.is("20 none", x.told(5), 0);
        due.is("20 from the first on", x.rung(4, false), 1);
        due.is("20 no yes is left over", x.who(), 1023);
    }

    private static void promise21who() {
        LastTrain x = new LastTrain();
        x.tie(0, 1, 3, 3);
        x.tie(0, 2, 0, 5);
        x.tie(1, 2, 1, 1);
        x.law(2, 0);
        x.rung(0, true);
        due.is("21 A's friends, a debt too", x.who(), 0b110);
        x.rung(1, false);
        due.is("21 of itself it says no", x.who(), 0b010);
        x.law(1, 2);
        due.is("21 a weak tie is none", x.who(), 0b110);
        x.law(1, 4);
        due.is("21 by the law as it is", x.who(), 0b100);
        x.one(2, 0, 0);
        x.one(0, 0, 0);
        due.is("21 away or not", x.who(), 0b100);
        x.rung(0, false);
        due.is("21 yes and no", x.who(), 0);
    }

    private static void promise22ring() {
        LastTrain x = new LastTrain();
        due.is("22 all alike", x.ring(0), 0);
        due.is("22 ten", x.ring(1), 10);
        for (int one = 0; one < 5; one++) {
            x.tie(9, one, 0, 5);
        }
        x.tie(8, 0, 3, 5);
        x.image(0);
        x.tie(9, 4, 0, 0);
        for (int one = 5; one < 10; one++) {
            x.tie(1, one, 0, 5);
        }
        due.is("22 B halves them", x.ring(0), 1);
        due.is("22 B halves them", x.ring(1), 5);
        x.restore(0);
        due.is("22 J halves them", x.ring(0), 9);
        due.is("22 five", x.ring(1), 5);
        x.one(9, 0, 0);
        due.is("22 away or not", x.ring(0), 9);
        x.rung(9, true);
        due.is("22 five fit", x.who(), 31);
        due.is("22 I tells A from them", x.ring(0), 8);
        due.is("22 four", x.ring(1), 4);
        x.rung(8, true);
        due.is("22 A is left: the least", x.ring(0), 0);
        due.is("22 one", x.ring(1), 1);
        x.rung(7, true);
        due.is("22 nobody fits", x.ring(0), LastTrain.NONE);
        due.is("22 nobody fits", x.ring(1), LastTrain.NONE);
    }

    private static void answers(LastTrain x, int n, int t, int what, long upper, long lower) {
        due.is("23 upper of " + n + " " + t + " " + what, x.answers(n, t, what, 0), upper);
        due.is("23 lower of " + n + " " + t + " " + what, x.answers(n, t, what, 1), lower);
    }

    private static void promise23answers() {
        LastTrain x = new LastTrain();
        answers(x, 0, 5, 0, 0, 1);
        answers(x, 0, 5, 1, 0, 1);
        answers(x, 1, 5, 0, 1, 2);
        answers(x, 1, 5, 1, 1, 1);
        answers(x, 2, 3, 0, 51, 100);
        answers(x, 2, 3, 1, 17, 10);
        answers(x, 10, 0, 0, 0, 1);
        answers(x, 10, 0, 1, 10, 1);
        answers(x, 10, 10, 0, 1, 1);
        answers(x, 10, 10, 1, 1, 1);
        x.law(0, 2);
        answers(x, 2, 5, 0, 1, 4);
        answers(x, 3, 5, 0, 1, 2);
        answers(x, 3, 5, 1, 11, 4);
        answers(x, 10, 3, 0, 8506916541L, 10000000000L);
        x.law(0, 9);
        answers(x, 8, 10, 0, 0, 1);
        answers(x, 8, 10, 1, 8, 1);
        answers(x, 9, 9, 0, 387420489, 1000000000);
        answers(x, 10, 10, 1, 9, 1);
        for (int enough = 1; enough <= 9; enough += 2) {
            allAnswers(enough);
        }
    }

    private static void allAnswers(int enough) {
        Model m = new Model();
        m.law(0, enough);
        for (int n = 0; n <= 10; n++) {
            LastTrain x = new LastTrain();
            x.law(0, enough);
            for (int t = 0; t <= 10; t++) {
                for (int what = 0; what < 2; what++) {
                    answers(x, n, t, what, m.answers(n, t, what, 0), m.answers(n, t, what, 1));
                }
            }
        }
    }

    private static void promise24number() {
        LastTrain x = new LastTrain();
        due.is("24 nothing to take", x.number(0, 0), 0);
        due.is("24 nothing to take", x.number(0, 1), LastTrain.NONE);
        due.is("24 takes all", x.number(7, 0), 1);
        due.is("24 takes all", x.number(7, 1), 7);
        due.is("24 ten is lost: 9 is left", x.number(10, 0), 0);
        due.is("24 seventeen: 10", x.number(17, 1), 7);
        due.is("24 of two that are alike", x.number(11, 1), 1);
        due.is("24 the last number", x.number(999, 1), 9);
        Model m = new Model();
        for (int n = 0; n <= 999; n++) {
            x = new LastTrain();
            due.is("24 whether " + n, x.number(n, 0), m.number(n, 0));
            due.is("24 which of " + n, x.number(n, 1), m.number(n, 1));
        }
    }

    private static void promise25year() {
        LastTrain x = new LastTrain();
        // 74: E and H meet, by 0.
        due.is("25 a meeting", x.year(0, 1, 1), 2);
        // 75 74 and 74 are 5624: E and C, by 0 again.
        due.is("25 two meetings", x.year(0, 2, 1), 4);
        due.is("25 nobody goes", x.year(0, 2, 0), 10);
        due.is("25 no cut", x.year(0, 2, 2), 0);
        // 149: J and E, by 1.
        due.is("25 a meeting", x.year(1, 1, 1), 2);
        // 224: E and C, by 2, if they have a tie.
        due.is("25 no quarrel", x.year(2, 1, 1), 0);
        x.tie(2, 4, 0, 5);
        due.is("25 a quarrel", x.year(2, 1, 1), 2);
        // 374: E and H, by 3.
        due.is("25 a loan", x.year(4, 1, 1), 14);
        // 749: by 7.
        due.is("25 a month", x.year(9, 1, 1), 4);
        // 674: by 6, if somebody waits.
        due.is("25 no night", x.year(8, 1, 0), 10);
        x.law(0, 2);
        Due.say(x, "E>");
        x.done();
        due.is("25 a night", x.year(8, 1, 0), 9);
        due.is("25 a night's cut", x.year(8, 1, 2), 5);
        due.is("25 all ties still", x.year(8, 1, 1), 5);
        Due.allAway(x);
        due.is("25 all away", x.year(5, 99, 0), 0);
        due.is("25 ties of who is away", x.year(5, 99, 1), 5);
        Model m = new Model();
        for (int one = 0; one < 9; one++) {
            m.tie(one, one + 1, one % 4, one);
        }
        m.law(0, 2);
        for (char sign : "A>C>E>".toCharArray()) {
            m.say(sign);
        }
        m.done();
        String before = Due.lookOf(waitingChain());
        for (int seed = 0; seed <= 9999; seed += 33) {
            LastTrain y = waitingChain();
            for (int what = 0; what < 3; what++) {
                due.is("25 year " + seed, y.year(seed, 99 - seed % 98, what), m.year(seed, 99 - seed % 98, what));
            }
            due.isText("25 nothing is done", Due.lookOf(y), before);
        }
    }

    private static LastTrain waitingChain() {
        LastTrain x = new LastTrain();
        for (int one = 0; one < 9; one++) {
            x.tie(one, one + 1, one % 4, one);
        }
        x.law(0, 2);
        Due.live(x, "A>C>E>");
        return x;
    }

    private static void promise26image() {
        LastTrain x = new LastTrain();
        x.tie(0, 1, 0, 7);
        due.is("26 kept", x.image(0), 1);
        due.is("26 the other one is not", x.restore(1), LastTrain.STATE);
        x.tie(0, 1, 0, 3);
        due.is("26 kept", x.image(1), 1);
        x.tie(0, 1, 0, 5);
        x.restore(0);
        due.is("26 first", x.told(101), 7);
        x.restore(1);
        due.is("26 second", x.told(101), 3);
        x.image(0);
        x.tie(0, 1, 0, 9);
        x.restore(0);
        due.is("26 kept anew", x.told(101), 3);
    }

    private static void promise27restore() {
        LastTrain x = new LastTrain();
        x.tie(2, 5, 1, 4);
        x.one(6, 0, 1);
        x.law(0, 2);
        x.law(1, 3);
        x.law(2, 0);
        x.law(3, 0);
        x.rung(2, true);
        x.rung(7, false);
        Due.say(x, "C>");
        x.done();
        String before = Due.lookOf(x);
        x.image(1);
        x.tie(2, 5, 0, 1);
        x.one(6, 1, 0);
        x.one(2, 1, 0);
        for (int which = 0; which < 4; which++) {
            x.law(which, 1);
        }
        x.forget();
        x.rung(1, true);
        due.is("27 restored", x.restore(1), 1);
        due.isText("27 all is as it was", Due.lookOf(x), before);
        Due.say(x, "A+B");
        x.restore(1);
        due.is("27 the pad is not of it", x.told(0), 3);
        x.tie(2, 5, 0, 9);
        x.restore(1);
        due.is("27 it can be restored again", x.told(125), 4);
        x.image(0);
        x.restore(0);
        due.is("27 the pad is left", x.told(0), 3);
    }

    private static void promise28told() {
        LastTrain x = new LastTrain();
        x.tie(0, 9, 3, 6);
        x.one(4, 0, 1);
        x.law(0, 1);
        x.rung(3, true);
        Due.say(x, "C>");
        x.done();
        Due.say(x, "A+B");
        int[] want = {3, 0b1111101111, 0b10000, 0b100, 0b1000000001, 1};
        for (int what = 0; what < want.length; what++) {
            due.is("28 told " + what, x.told(what), want[what]);
        }
        x.law(0, 4);
        x.law(1, 5);
        x.law(2, 0);
        due.is("28 enough", x.told(10), 4);
        due.is("28 from", x.told(11), 5);
        due.is("28 debts", x.told(12), 0);
        due.is("28 dogs", x.told(13), 1);
        due.is("28 strong", x.told(109), 6);
        due.is("28 strong", x.told(190), 6);
        due.is("28 of itself", x.told(199), 0);
        due.is("28 kind", x.told(209), 3);
        due.is("28 kind", x.told(290), 3);
        due.is("28 of itself", x.told(299), LastTrain.NONE);
        due.is("28 the pad's months are ahead", x.told(101), 0);
    }
}
