/** What is empty, what is full, what ends at an edge: each sentence of the document that names one, by its promise. */
public final class EdgesTest {
    private static final int UNKNOWN = -1, STATE = -3, FULL = -4, NO = -5, NONE = -6;

    private static final Due due = new Due();

    public static void main(String[] args) {
        wholeLife();
        emptyPad();
        nobodyInTheCity();
        nobodyWaits();
        noTie();
        noSights();
        noImage();
        fullPad();
        fullTown();
        allWait();
        fullSights();
        ties();
        firstReason();
        missedByEnough();
        missedFrom();
        missedByDog();
        nights();
        cutShort();
        staysAndKeeps();
        looseAndSeats();
        six();
        answers();
        numbers();
        years();
        images();
        due.end();
    }

    private static void act(String name, LastTrain x, String text, int act, int why) {
        Due.write(x, text);
        due.is(name + ": act of " + text, x.judge(0), act);
        due.is(name + ": why of " + text, x.judge(1), why);
    }

    /** An object is used for 512 calls: the last of them is answered as the first. */
    private static void wholeLife() {
        LastTrain x = new LastTrain();
        for (int call = 0; call < 511; call++) {
            due.is("call " + call, x.law(0, 1 + call % 9), call == 0 ? 1 : 1 + (call - 1) % 9);
        }
        due.is("call 512", x.told(10), 1 + 510 % 9);
        for (int last = 0; last < 3; last++) {
            LastTrain y = new LastTrain();
            y.tie(0, 1, 0, 9);
            for (int call = 1; call < 511; call++) {
                y.told(101);
            }
            due.is("call 512, " + last, last == 0 ? y.told(1) : last == 1 ? y.city(1) : y.stays(0), last == 0 ? 1023 : 3);
        }
    }

    // ---- what is empty

    private static void emptyPad() {
        LastTrain x = new LastTrain();
        due.is("7 an empty pad has no fault", x.fault(), NONE);
        due.is("8 no act that can not be", x.judge(0), NONE);
        due.is("8 nor why", x.judge(1), NONE);
        due.is("8 nobody went", x.judge(2), 0);
        due.is("9 behind no acts", x.behind(9, 0), 1);
        due.is("9 behind no acts", x.behind(9, 3), 0);
        due.is("10 the city behind no acts", x.city(0), 1023);
        due.is("10 nobody missed", x.city(1), 0);
        due.is("10 nothing cut", x.city(2), 0);
        due.is("11 nobody taken", x.taken(0), NONE);
        due.is("12 no acts", x.done(), 0);
        due.is("6 no signs", x.wipe(), 0);
        due.is("28 no signs", x.told(0), 0);
        due.is("5 the first sign", x.say('A'), 1);
        due.is("7 now more must come", x.fault(), 1);
        due.is("6 it goes", x.wipe(), 1);
        due.is("7 an empty pad again", x.fault(), NONE);
        due.is("8 nobody went again", x.judge(2), 0);
    }

    private static LastTrain deserted() {
        LastTrain x = new LastTrain();
        x.tie(0, 1, 0, 9);
        x.tie(2, 3, 3, 4);
        for (int one = 0; one < 10; one++) {
            due.is("3 one goes", x.one(one, 0, 0), 9 - one);
        }
        return x;
    }

    private static void nobodyInTheCity() {
        LastTrain x = deserted();
        due.is("28 nobody is here", x.told(1), 0);
        due.is("28 nobody is missed", x.told(4), 0);
        due.is("10 nobody", x.city(0), 0);
        due.is("10 nobody missed", x.city(1), 0);
        due.is("13 nobody stays", x.stays(0), 0);
        due.is("13 in no night", x.stays(1), 0);
        due.is("14 nobody to keep", x.keep(0, 0), UNKNOWN);
        due.is("15 nobody to loosen", x.loose(0, 0), UNKNOWN);
        due.is("16 nobody could go", x.seats(9, 0), 0);
        due.is("16 nobody could go", x.seats(9, 1), 0);
        due.is("21 away or not, all fit", x.who(), 1023);
        due.is("19 who is away is rung", x.rung(0, true), 1);
        due.is("21 who is away fits", x.who(), 2);
        due.is("22 who is away is to be rung next", x.ring(0), 0);
        due.is("9 away", x.behind(0, 0), 0);
        due.is("9 away: missed", x.behind(0, 3), NONE);
        due.is("9 no others in the city", x.behind(0, 4), 0);
        String[] acts = {"A+B", "A-B", "C$D", "Ad", "A>", "A+A"};
        for (String text : acts) {
            act("8 nobody here", x, text, 0, 1);
        }
        act("8 nobody here", x, ".", 0, 4);
        act("8 nobody here", x, "~", 0, 5);
        for (int what = 0; what < 3; what++) {
            due.is("25 a year of nobody", x.year(5, 99, what), what == 1 ? 13 : 0);
        }
        due.is("3 the first one back", x.one(9, 1, 0), 1);
        due.is("13 alone", x.stays(1), 1);
        due.is("16 alone", x.seats(9, 1), 512);
        due.is("14 alone", x.keep(9, 0), NONE);
        due.is("15 alone", x.loose(9, 0), 0);
        x.one(9, 1, 1);
        due.is("13 alone with its dog", x.stays(0), 512);
        due.is("13 alone with its dog", x.stays(1), 0);
    }

    private static void nobodyWaits() {
        LastTrain x = new LastTrain();
        act("8 nobody waits", x, ".", 0, 4);
        act("8 one waits", x, "A>.", NONE, NONE);
        act("8 nobody any more", x, "A>A>.", 2, 4);
        act("8 nobody behind a night", x, "A>..", 2, 4);
        x.one(0, 1, 1);
        act("8 nobody behind a night by which nobody goes", x, "A>..", 2, 4);
        Due.live(x, "A>");
        act("8 one waits already", x, ".", NONE, NONE);
        x.one(0, 1, 1);
        due.is("28 it waits no more", x.told(3), 0);
        act("8 who was put in the city waits no more", x, ".", 0, 4);
    }

    private static void noTie() {
        LastTrain x = new LastTrain();
        act("8 no tie that could be less", x, "~", 0, 5);
        act("8 no tie to quarrel by", x, "A-B", 0, 3);
        x.wipe();
        due.is("15 no tie", x.loose(0, 0), 0);
        due.is("15 no tie", x.loose(0, 1), 0);
        due.is("9 no tie", x.behind(0, 4), 0);
        due.is("16 no tie", x.seats(9, 1), 511);
        x.tie(0, 1, 3, 9);
        act("8 a debt alone", x, "~", 0, 5);
        x.tie(2, 3, 0, 1);
        act("8 one tie of 1", x, "~~", 1, 5);
        x.one(3, 0, 0);
        act("8 a tie to who is away", x, "~", 0, 5);
        x.one(2, 0, 0);
        act("8 a tie of two who are away", x, "~", 0, 5);
        x.tie(4, 5, 2, 1);
        Due.live(x, "~");
        due.is("12 the tie of two who are away is not less", x.told(123), 1);
        due.is("12 the debt is not less", x.told(101), 9);
        due.is("12 the tie is none", x.told(145), 0);
    }

    private static void noSights() {
        LastTrain x = new LastTrain();
        due.is("20 no sights", x.forget(), 0);
        due.is("21 all fit", x.who(), 1023);
        due.is("22 whom", x.ring(0), 0);
        due.is("22 all are left", x.ring(1), 10);
        due.is("28 no sights", x.told(5), 0);
        due.is("19 the first", x.rung(9, false), 1);
        due.is("20 one goes", x.forget(), 1);
        due.is("20 none again", x.forget(), 0);
    }

    private static void noImage() {
        LastTrain x = new LastTrain();
        due.is("27 none is kept", x.restore(0), STATE);
        due.is("27 none is kept", x.restore(1), STATE);
        due.is("26 the second is", x.image(1), 1);
        due.is("27 the first is not", x.restore(0), STATE);
        due.is("27 the second is", x.restore(1), 1);
        due.is("27 and is still", x.restore(1), 1);
        due.is("27 the first is not yet", x.restore(0), STATE);
    }

    // ---- what is full

    private static void fullPad() {
        LastTrain x = Due.months("AdB>".repeat(15));
        due.is("28 sixty signs", x.told(0), 60);
        due.is("5 one more", x.say('.'), FULL);
        due.is("7 no fault", x.fault(), NONE);
        due.is("8 all can be", x.judge(0), NONE);
        due.is("12 thirty acts", x.done(), 30);
        due.is("12 an odd number of times", x.told(2), 1);
        due.is("12 an odd number of times", x.told(3), 2);
        due.is("5 there is room again", x.say('.'), 1);
        x = Due.months("A+BA-B".repeat(10));
        due.is("12 twenty acts of three signs", x.done(), 20);
        due.is("12 the tie is none", x.told(101), 0);
        x = new LastTrain();
        x.tie(0, 1, 0, 9);
        act("8 sixty acts of one sign", x, "~".repeat(60), 9, 5);
        act("8 the last of sixty", x, "~" + "Bd".repeat(28) + "A>.", NONE, NONE);
        due.is("8 A is missed", x.judge(2), 0);
        act("8 the last but one of the signs", x, "Bd".repeat(29) + "..", 29, 4);
        LastTrain y = Due.months("J>".repeat(29) + "A+");
        due.is("7 cut short at the edge", y.fault(), 60);
        due.is("5 it can not be mended", y.say('B'), FULL);
        due.is("8 nor be judged", y.judge(0), NO);
        due.is("6 but wiped", y.wipe(), 60);
    }

    private static LastTrain fullTown(int kind) {
        LastTrain x = new LastTrain();
        for (int one = 0; one < 10; one++) {
            for (int other = one + 1; other < 10; other++) {
                x.tie(one, other, kind, 9);
            }
        }
        return x;
    }

    private static void fullTown() {
        LastTrain x = fullTown(0);
        act("8 no tie can be more", x, "A+J", 0, 3);
        due.is("9 nine ties of 9", strengthBehindNothing(x), 81);
        due.is("25 all ties", x.year(1, 1, 1), 45 * 9);
        x.law(0, 9);
        x.law(1, 9);
        due.is("28 all are missed", x.told(4), 1023);
        due.is("13 all stay", x.stays(0), 1023);
        due.is("13 in no night", x.stays(1), 0);
        due.is("16 nobody could go", x.seats(9, 0), 0);
        due.is("15 one of nine", x.loose(9, 1), 1);
        x.law(0, 1);
        due.is("15 all nine", x.loose(9, 0), 9);
        due.is("15 all nine", x.loose(0, 1), 1022);
        LastTrain debts = fullTown(3);
        act("8 no loan can be more", debts, "A$J", 0, 3);
        act("8 no debt is less by a month", debts, "~", 0, 5);
        debts.law(2, 0);
        due.is("16 each has a tie to each", debts.seats(9, 0), 1);
        due.is("16 the least", debts.seats(9, 1), 1);
        Due.write(debts, "J>.");
        due.is("10 nine ties of 9 are cut", debts.city(2), 81);
        due.is("9 who is away has them", debts.behind(9, 4), 81);
        Due.say(debts, "A>B>C>D>E>F>G>H>I>.");
        due.is("10 no more are cut as all go", debts.city(2), 81);
        due.is("10 nobody is left", debts.city(0), 0);
        due.is("9 nobody to have ties to", debts.behind(9, 4), 0);
    }

    private static int strengthBehindNothing(LastTrain x) {
        x.wipe();
        return x.behind(0, 4);
    }

    private static void allWait() {
        LastTrain x = Due.months("A>B>C>D>E>F>G>H>I>J>");
        due.is("9 the first waits", x.behind(0, 2), 1);
        due.is("9 the last waits", x.behind(9, 2), 1);
        Due.say(x, ".");
        due.is("8 all go in one night", x.judge(2), 10);
        due.is("10 nobody is left", x.city(0), 0);
        due.is("10 nothing is cut", x.city(2), 0);
        due.is("11 the act", x.taken(0), 10);
        due.is("11 the least", x.taken(1), 0);
        due.is("9 nobody waits", x.behind(5, 2), 0);
        Due.say(x, "~");
        due.is("8 then nothing can be", x.judge(0), 11);
        x.wipe();
        Due.live(x, "A>B>C>D>E>F>G>H>I>J>");
        due.is("28 all wait", x.told(3), 1023);
        x.law(1, 9);
        for (int one = 0; one < 10; one += 2) {
            x.tie(one, one + 1, 1, 9);
        }
        Due.write(x, ".");
        due.is("8 all wait, nobody goes", x.judge(2), 0);
        due.is("12 it is an act", x.done(), 1);
        due.is("28 nobody waits any more", x.told(3), 0);
        due.is("28 all are here", x.told(1), 1023);
    }

    private static void fullSights() {
        LastTrain x = new LastTrain();
        x.tie(0, 1, 0, 1);
        for (int sight = 1; sight <= 7; sight++) {
            due.is("19 sight", x.rung(9, false), sight);
        }
        due.is("19 the eighth", x.rung(0, true), 8);
        due.is("21 the eighth is so too", x.who(), 2);
        due.is("19 the ninth", x.rung(0, false), FULL);
        due.is("21 the ninth is not", x.who(), 2);
        due.is("28 eight", x.told(5), 8);
        x.image(0);
        due.is("20 eight go", x.forget(), 8);
        due.is("19 there is room again", x.rung(1, true), 1);
        x.restore(0);
        due.is("27 full again", x.rung(5, true), FULL);
        due.is("27 as they were", x.who(), 2);
    }

    // ---- what ends at an edge

    private static int tieAfter(int kind, int v, String text) {
        LastTrain x = new LastTrain();
        x.tie(0, 1, kind, v);
        Due.live(x, text);
        due.is("12 " + text + " of " + v + " from both sides", x.told(110), x.told(101));
        due.is("12 " + text + " of " + v + " by kind from both sides", x.told(210), x.told(201));
        return x.told(101) + 10 * x.told(201);
    }

    private static void ties() {
        for (int v = 0; v <= 8; v++) {
            due.is("12 they meet at " + v, tieAfter(1, v, "A+B"), 10 + Math.min(9, v + 2));
        }
        for (int v = 1; v <= 9; v++) {
            due.is("12 they quarrel at " + v, tieAfter(0, v, "B-A"), Math.max(0, v - 3));
            due.is("12 a month at " + v, tieAfter(2, v, "~"), 20 + v - 1);
        }
        for (int v = 0; v <= 9; v++) {
            due.is("12 a loan at " + v, tieAfter(1, v, "A$B"), 39);
        }
        for (int v = 0; v <= 8; v++) {
            due.is("12 a loan on a debt of " + v, tieAfter(3, v, "B$A"), 39);
        }
        due.is("12 a debt is 2 more", tieAfter(3, 8, "A+B"), 39);
        due.is("12 a debt is 3 less", tieAfter(3, 2, "A-B"), 30);
        due.is("12 a tie that was none keeps its kind", tieAfter(3, 1, "A-BA+B"), 32);
        LastTrain x = new LastTrain();
        x.tie(0, 1, 0, 9);
        act("8 9 already", x, "A+B", 0, 3);
        act("8 not any more", x, "A-BB+AA+BA+B", 3, 3);
        act("8 none at last", x, "A-BA-BA-BB-A", 3, 3);
        act("8 9 already, but no debt", x, "A$BA$B", 1, 3);
        x.tie(0, 1, 3, 9);
        act("8 a debt by 9", x, "A$B", 0, 3);
        act("8 a debt by 9 meets", x, "B+A", 0, 3);
        act("8 a debt by 6", x, "A-BA$B", NONE, NONE);
        x.tie(0, 1, 3, 0);
        act("8 a debt by 0", x, "B-A", 0, 3);
    }

    /** The least of the reasons that fit. */
    private static void firstReason() {
        LastTrain x = new LastTrain();
        x.tie(0, 1, 0, 9);
        x.tie(0, 2, 3, 9);
        x.one(0, 0, 0);
        String[] away = {"A+A", "A-A", "A$A", "A+B", "B+A", "A-D", "D-A", "A$C", "C$A", "Ad", "A>"};
        for (String text : away) {
            act("8 away ahead of all", x, text, 0, 1);
        }
        x.one(1, 0, 0);
        act("8 both away", x, "A+B", 0, 1);
        act("8 both one ahead of no tie", x, "D-D", 0, 2);
        act("8 both one", x, "D+D", 0, 2);
        act("8 both one", x, "J$J", 0, 2);
        act("8 the first act that can not be", x, "D-E..A+B", 0, 3);
        act("8 the first act that can not be", x, "Dd.~", 1, 4);
    }

    private static LastTrain star(int kind, int v, int ties) {
        LastTrain x = new LastTrain();
        for (int other = 1; other <= ties; other++) {
            x.tie(0, other, kind, v);
        }
        return x;
    }

    private static int isMissed(LastTrain x, int one) {
        due.is("28 and 10 are as 9 tells", (x.told(4) >> one & 1) + (x.city(1) >> one & 1), 2 * x.behind(one, 3));
        return x.behind(one, 3);
    }

    private static void missedByEnough() {
        for (int ties = 0; ties <= 9; ties++) {
            LastTrain x = star(0, 1, ties);
            for (int enough = 1; enough <= 9; enough++) {
                x.law(0, enough);
                due.is("4 " + ties + " ties, enough is " + enough, isMissed(x, 0), ties >= enough ? 1 : 0);
            }
        }
        LastTrain x = star(1, 5, 9);
        x.law(0, 9);
        due.is("9 by nine others", isMissed(x, 0), 1);
        x.one(9, 0, 0);
        due.is("9 one of them is away", isMissed(x, 0), 0);
        x.one(0, 1, 1);
        due.is("9 its dog is as one more", isMissed(x, 0), 1);
        x.one(0, 1, 0);
        x.one(1, 1, 1);
        due.is("9 another's dog is not", isMissed(x, 0), 0);
    }

    private static void missedFrom() {
        for (int v = 0; v <= 9; v++) {
            LastTrain x = star(2, v, 1);
            for (int from = 1; from <= 9; from++) {
                x.law(1, from);
                due.is("4 a tie of " + v + " from " + from, isMissed(x, 0), v >= from ? 1 : 0);
                due.is("21 a tie of " + v + " from " + from, saysYes(v, from), v >= from ? 2 : 0);
            }
        }
        for (int kind = 0; kind <= 3; kind++) {
            LastTrain x = star(kind, 9, 1);
            due.is("4 kind " + kind, isMissed(x, 1), 1);
            x.law(2, 0);
            due.is("4 kind " + kind + ", without debts", isMissed(x, 1), kind == 3 ? 0 : 1);
        }
    }

    private static int saysYes(int v, int from) {
        LastTrain x = star(3, v, 1);
        x.law(1, from);
        x.law(2, 0);
        x.rung(0, true);
        return x.who();
    }

    private static void missedByDog() {
        LastTrain x = new LastTrain();
        x.one(0, 1, 1);
        due.is("9 a dog alone is enough", isMissed(x, 0), 1);
        x.law(0, 2);
        due.is("9 a dog alone is not enough", isMissed(x, 0), 0);
        x.law(0, 1);
        x.law(3, 0);
        due.is("9 a dog does not count", isMissed(x, 0), 0);
        x.law(3, 1);
        x.one(0, 0, 1);
        due.is("9 it is away with its dog", x.behind(0, 3), NONE);
        due.is("28 it is away with its dog", x.told(4), 0);
        due.is("28 it has its dog still", x.told(2), 1);
        x.law(0, 9);
        x.one(0, 1, 1);
        for (int other = 1; other <= 8; other++) {
            due.is("9 " + (other - 1) + " and a dog of nine", isMissed(x, 0), 0);
            x.tie(0, other, 0, 1);
        }
        due.is("9 eight and a dog", isMissed(x, 0), 1);
    }

    private static void nights() {
        LastTrain x = new LastTrain();
        x.tie(0, 1, 0, 5);
        Due.say(x, "A>B>.");
        due.is("8 a night by which nobody goes can be", x.judge(0), NONE);
        due.is("8 nobody went", x.judge(2), 0);
        due.is("11 nobody was taken", x.taken(0), NONE);
        due.is("11 nobody was taken", x.taken(1), NONE);
        due.is("10 nothing was cut", x.city(2), 0);
        due.is("9 it waits no more", x.behind(0, 2), 0);
        Due.say(x, "C>A>.");
        due.is("11 the first night by which somebody goes", x.taken(0), 5);
        due.is("11 who", x.taken(1), 2);
        due.is("8 one went", x.judge(2), 1);
        Due.say(x, "D>E>.");
        due.is("11 it is still the first", x.taken(0), 5);
        due.is("8 three went", x.judge(2), 3);
        due.is("12 eleven acts less two", x.done(), 9);
        due.is("28 who is left", x.told(1), 0b1111100011);
        LastTrain pair = new LastTrain();
        pair.law(0, 2);
        pair.tie(0, 1, 0, 5);
        pair.tie(0, 2, 0, 5);
        Due.say(pair, "A>B>.");
        due.is("10 by how it is ahead of the night A is missed by B", pair.city(0), 0b1111111101);
        due.is("10 not behind it", pair.city(1), 0);
        due.is("10 cut to who waited and stayed", pair.city(2), 5);
        pair.one(9, 1, 1);
        Due.write(pair, "J>.");
        due.is("9 a dog goes along", pair.behind(9, 1), 1);
        due.is("9 its ones goes", pair.behind(9, 0), 0);
    }

    /** THE FAULT is the number of signs, if more must come: at each length of the pad. */
    private static void cutShort() {
        for (int length = 0; length <= 59; length++) {
            due.is("7 a letter behind " + length, Due.months("~".repeat(length) + "A").fault(), length + 1);
            due.is("7 no act behind " + length, Due.months(".".repeat(length) + "d").fault(), length);
        }
        for (int length = 0; length <= 58; length++) {
            due.is("7 a deed behind " + length, Due.months("~".repeat(length) + "J$").fault(), length + 2);
            due.is("7 no deed behind " + length, Due.months("~".repeat(length) + "JJ").fault(), length + 1);
        }
        for (int length = 0; length <= 57; length++) {
            due.is("7 nobody behind " + length, Due.months("~".repeat(length) + "J$-").fault(), length + 2);
            due.is("7 an act behind " + length, Due.months("~".repeat(length) + "J$I").fault(), NONE);
        }
        LastTrain x = new LastTrain();
        String text = "A+BC>D-!E";
        int[] want = {1, 2, NONE, 4, NONE, 6, 7, 7, 7};
        for (int place = 0; place < text.length(); place++) {
            x.say(text.charAt(place));
            due.is("7 a sign that is said changes what fault() tells, " + place, x.fault(), want[place]);
        }
        due.is("5 no sign", x.say(32), -2);
        due.is("7 a sign that is refused does not", x.fault(), 7);
    }

    // ---- who stays, who could go

    private static void staysAndKeeps() {
        LastTrain x = star(0, 1, 9);
        x.law(0, 9);
        due.is("13 A stays a night longer", x.stays(1), 2);
        due.is("14 all the others", x.keep(0, 0), 9);
        due.is("14 all the others", x.keep(0, 1), 1022);
        due.is("14 by none", x.keep(1, 0), NONE);
        x.one(0, 1, 1);
        due.is("14 eight, with its dog", x.keep(0, 0), 8);
        due.is("14 the least eight", x.keep(0, 1), 510);
        x.one(9, 0, 0);
        due.is("14 all eight there are", x.keep(0, 1), 510);
        x.one(8, 0, 0);
        due.is("14 seven are too few", x.keep(0, 0), NONE);
        x.law(0, 1);
        due.is("14 its dog is enough", x.keep(0, 0), 0);
        due.is("14 its dog is enough", x.keep(0, 1), 0);
        due.is("13 all stay that have a tie to A", x.stays(0), 255);
        due.is("13 in no night", x.stays(1), 0);
        LastTrain chain = new LastTrain();
        chain.law(0, 2);
        for (int one = 0; one < 9; one++) {
            chain.tie(one, one + 1, 0, 5);
        }
        due.is("13 from both ends", chain.stays(1), 5);
        due.is("14 one to each side, the least", chain.keep(4, 1), 0b0000100001);
        due.is("14 one to each side, the least", chain.keep(5, 1), 0b0001000001);
        due.is("14 the last but one", chain.keep(8, 1), 0b1000000001);
        due.is("14 the first but one", chain.keep(1, 1), 0b0000000101);
        due.is("14 the last", chain.keep(9, 0), NONE);
    }

    private static void looseAndSeats() {
        LastTrain x = star(0, 1, 3);
        int[] due3 = {0, 1, 2, 3};
        for (int enough = 1; enough <= 4; enough++) {
            x.law(0, enough);
            due.is("15 enough is " + enough, x.loose(0, 0), due3[4 - enough]);
        }
        x.one(0, 1, 1);
        x.law(0, 4);
        due.is("15 one of three, with a dog", x.loose(0, 1), 2);
        x.law(0, 5);
        due.is("15 none of three, with a dog", x.loose(0, 0), 0);
        x.law(0, 2);
        due.is("15 all three, with a dog", x.loose(0, 1), 14);
        x.law(0, 1);
        due.is("15 the dog is enough", x.loose(0, 1), NONE);
        for (int enough = 5; enough <= 9; enough++) {
            x.law(0, enough);
            due.is("15 far from missed, with a dog, enough is " + enough, x.loose(0, 0), 0);
            due.is("15 far from missed, with a dog, enough is " + enough, x.loose(0, 1), 0);
            due.is("15 far from missed, by nobody, enough is " + enough, x.loose(9, 0), 0);
            due.is("15 far from missed, by nobody, enough is " + enough, x.loose(9, 1), 0);
        }
        LastTrain y = new LastTrain();
        for (int seats = 0; seats <= 9; seats++) {
            due.is("16 so many as there are seats", y.seats(seats, 0), seats);
            due.is("16 the least of as many", y.seats(seats, 1), (1 << seats) - 1);
        }
        for (int one = 0; one < 7; one++) {
            y.one(one, 0, 0);
        }
        due.is("16 two seats of three", y.seats(2, 1), 0b0110000000);
        due.is("16 three seats of three", y.seats(3, 1), 0b1110000000);
        due.is("16 nine seats of three", y.seats(9, 1), 0b1110000000);
        y.law(1, 2);
        y.tie(7, 8, 3, 1);
        due.is("16 a tie of 1, of any kind", y.seats(9, 1), 0b1010000000);
        y.tie(7, 8, 3, 0);
        due.is("16 a tie of 0 is none", y.seats(9, 1), 0b1110000000);
        y.tie(7, 8, 3, 2);
        due.is("16 both are missed", y.seats(9, 1), 0b1000000000);
    }

    private static void six() {
        LastTrain x = new LastTrain();
        due.is("17 odds of all 0", x.calls(0, 0), 6);
        due.is("17 odds of all 0", x.calls(0, 1), 1);
        due.is("18 odds of all 0", x.order(0), 12345);
        due.is("17 odds of all 9", x.calls(999999, 0), 111111);
        due.is("17 odds of all 9", x.calls(999999, 1), 100000);
        due.is("18 odds of all 9", x.order(999999), 12345);
        int[] alone = {900000, 90000, 9000, 900, 90, 9};
        int[] first = {12345, 102345, 201345, 301245, 401235, 501234};
        for (int who = 0; who < 6; who++) {
            due.is("18 one of 9 alone", x.order(alone[who]), first[who]);
            due.is("17 one of 9 alone", x.calls(alone[who], 0), 3);
            due.is("17 one of 9 alone", x.calls(alone[who], 1), 2);
            due.is("18 one of 1 alone", x.order(alone[who] / 9), first[who]);
            due.is("17 one of 1 alone", x.calls(alone[who] / 9, 0), 11);
        }
        due.is("18 the last two differ", x.order(999989), 12354);
        due.is("17 the last is rung, but its odds are nothing", x.calls(999980, 0), x.calls(999987, 0));
    }

    // ---- answers, numbers, years

    private static void answer(LastTrain x, int n, int t, int what, long upper, long lower) {
        due.is("23 upper of " + n + " by " + t + ", " + what, x.answers(n, t, what, 0), upper);
        due.is("23 lower of " + n + " by " + t + ", " + what, x.answers(n, t, what, 1), lower);
    }

    private static void answers() {
        for (int enough = 1; enough <= 9; enough++) {
            LastTrain x = new LastTrain();
            x.law(0, enough);
            answer(x, 0, 0, 0, 0, 1);
            answer(x, 0, 10, 0, 0, 1);
            answer(x, 0, 0, 1, 0, 1);
            answer(x, 0, 10, 1, 0, 1);
            for (int n = 1; n <= 10; n++) {
                answer(x, n, 0, 0, 0, 1);
                answer(x, n, 0, 1, n, 1);
                answer(x, n, 10, 0, n >= enough ? 1 : 0, 1);
                answer(x, n, 10, 1, Math.min(n, enough), 1);
            }
            // One too few can never be enough; just so many must all say it.
            answer(x, enough - 1, 9, 0, 0, 1);
            answer(x, enough - 1, 9, 1, enough - 1, 1);
            answer(x, enough, 5, 0, 1, 1L << enough);
            answer(x, enough, 5, 1, enough, 1);
        }
        LastTrain x = new LastTrain();
        answer(x, 10, 1, 0, 6513215599L, 10000000000L);
        answer(x, 10, 9, 0, 9999999999L, 10000000000L);
        answer(x, 10, 9, 1, 1111111111L, 1000000000L);
    }

    private static void numbers() {
        LastTrain x = new LastTrain();
        int[] numbers = {0, 1, 9, 10, 11, 99, 100, 101, 990, 998, 999};
        int[] digits = {NONE, 1, 9, NONE, 1, 9, NONE, 1, NONE, 8, 9};
        for (int i = 0; i < numbers.length; i++) {
            due.is("24 whether by " + numbers[i], x.number(numbers[i], 0), digits[i] == NONE ? 0 : 1);
            due.is("24 which of " + numbers[i], x.number(numbers[i], 1), digits[i]);
        }
    }

    private static void years() {
        LastTrain x = new LastTrain();
        for (int what = 0; what < 3; what++) {
            due.is("25 the shortest", x.year(0, 1, what), what == 0 ? 10 : what == 1 ? 2 : 0);
        }
        Due.live(x, "A>B>C>D>E>F>G>H>I>J>");
        String before = Due.lookOf(x);
        // 674: a night, by which all go as nobody is missed.
        due.is("25 all go in one night", x.year(8, 1, 0), 0);
        due.is("25 and nothing can be behind it", x.year(8, 99, 0), 0);
        due.is("25 nor any tie", x.year(8, 99, 1), 0);
        due.isText("25 nothing is done in fact", Due.lookOf(x), before);
        Due.write(x, "A+");
        due.is("25 whatever is on the pad", x.year(8, 1, 0), 0);
        LastTrain full = fullTown(0);
        // 149: J and E would meet, but their tie is 9 already; 224: E and C quarrel; 749: a month.
        due.is("25 a meeting that can not be", full.year(1, 1, 1), 405);
        due.is("25 a quarrel", full.year(2, 1, 1), 402);
        due.is("25 a month", full.year(9, 1, 1), 360);
        due.is("25 a loan of a love of 9", full.year(4, 1, 1), 405);
    }

    private static void images() {
        LastTrain x = new LastTrain();
        Due.say(x, "A+");
        due.is("26 a fault does not matter", x.image(0), 1);
        x.say('B');
        x.done();
        due.is("27 as it was", x.restore(0), 1);
        due.is("27 the tie is none again", x.told(101), 0);
        due.is("27 the pad is empty still", x.told(0), 0);
        Due.say(x, "A$BAd".repeat(12));
        x.restore(0);
        due.is("27 a full pad is left", x.told(0), 60);
        Due.allAway(x);
        x.image(1);
        x.restore(0);
        due.is("27 all are here", x.told(1), 1023);
        x.restore(1);
        due.is("27 nobody is", x.told(1), 0);
        x.image(0);
        x.restore(0);
        due.is("26 kept anew", x.told(1), 0);
    }
}
