/** Sentences of the document that say what has no part in an answer, and years draw by draw; by the promise's number. */
public final class SentencesTest {
    private static final int STATE = -3, NONE = -6;

    private static final Due due = new Due();

    public static void main(String[] args) {
        promise1eachObjectIsItsOwn();
        promises2and3tiesAreAsTheyAre();
        promise12tiesAreAsTheyAre();
        promises8to11inTheText();
        promises13to28asThingsAreNow();
        promise13and14whoeverWaits();
        promise16tiesToWhoCannotGo();
        promises17to24byTheirNumbersAlone();
        promise21byTiesAsTheyAre();
        promise25waiting();
        promise25whatCanNotBe();
        promise25ties();
        promise25fromAllAsItIs();
        due.end();
    }

    private static void promise1eachObjectIsItsOwn() {
        String empty = Due.lookOf(new LastTrain());
        LastTrain x = new LastTrain();
        LastTrain lived = Lived.made("B>.");
        String before = Due.lookOf(lived);
        due.isText("1 a new object beside one that has lived", Due.lookOf(x), empty);
        due.isText("1 a newer one", Due.lookOf(new LastTrain()), empty);
        due.isText("1 one that has lived beside new ones", Due.lookOf(lived), before);
        due.is("27 another one's image is not its own", x.restore(0), STATE);
    }

    // ---- TIES are as they are, whoever goes AWAY

    private static LastTrain tiedToThree() {
        LastTrain x = new LastTrain();
        x.tie(0, 1, 0, 4);
        x.tie(0, 2, 3, 9);
        x.tie(0, 3, 1, 2);
        x.tie(4, 5, 2, 2);
        x.law(0, 9);
        return x;
    }

    private static void threeTies(String name, LastTrain x) {
        due.is(name + ", strong", x.told(101) + 10 * x.told(120) + 100 * x.told(103), 294);
        due.is(name + ", kind", x.told(201) + 10 * x.told(220) + 100 * x.told(203), 130);
    }

    private static void promises2and3tiesAreAsTheyAre() {
        LastTrain x = tiedToThree();
        x.one(0, 0, 0);
        threeTies("3 A is away", x);
        x.one(1, 0, 1);
        x.one(2, 0, 0);
        x.one(3, 0, 0);
        threeTies("3 all four are away", x);
        due.is("2 between two who are away", x.tie(3, 0, 2, 7), 2);
        due.is("2 it is so then", x.told(103) + 10 * x.told(230), 27);
        x.tie(0, 3, 1, 2);
        x.one(0, 1, 0);
        due.is("9 they do not count, as they are away", x.behind(0, 4), 0);
        x.one(1, 1, 0);
        x.one(2, 1, 0);
        x.one(3, 1, 0);
        threeTies("3 all are back", x);
        due.is("9 all count again", x.behind(0, 4), 15);
        x.law(0, 3);
        due.is("28 A is missed by three again", x.told(4), 1);
    }

    private static void promise12tiesAreAsTheyAre() {
        LastTrain x = tiedToThree();
        Due.live(x, "A>.");
        threeTies("12 A went", x);
        Due.live(x, "~~");
        threeTies("12 two months later", x);
        due.is("12 the tie of two who stayed is less", x.told(145), 0);
        Due.live(x, "B>C>D>.");
        threeTies("12 all four went", x);
        due.is("12 they are away", x.told(1), 0b1111110000);
        x.one(0, 1, 0);
        x.one(3, 1, 0);
        due.is("12 a month for those who are back", x.behind(0, 4), 2);
        Due.live(x, "~");
        due.is("12 theirs alone is less", x.told(101) + 10 * x.told(102) + 100 * x.told(103), 194);
    }

    // ---- in the text: what is done in fact is no part of it, and a year is none of either

    private static void promises8to11inTheText() {
        LastTrain x = new LastTrain();
        x.law(1, 5);
        x.tie(4, 0, 0, 3);
        x.tie(9, 0, 0, 4);
        Due.say(x, "E>.");
        inTheText(x, "one night", 1, 3, 1, 4);
        years(x, "beside the text", 101, 2, 9, 7, 4);
        x.done();
        inTheText(x, "none any more", 0, 0, NONE, NONE);
        years(x, "behind what was done", 101, 2, 8, 7, 4);
        Due.say(x, "BdJ>.");
        inTheText(x, "the next one", 1, 4, 2, 9);
        x.wipe();
        inTheText(x, "none again", 0, 0, NONE, NONE);
        x.one(0, 0, 0);
        inTheText(x, "who is put away does not go", 0, 0, NONE, NONE);
        due.is("10 but is away", x.city(0), 0b1111101110);
    }

    private static void inTheText(LastTrain x, String name, int howMany, int cut, int act, int who) {
        due.is("8 " + name + ", how many", x.judge(2), howMany);
        due.is("10 " + name + ", cut", x.city(2), cut);
        due.is("11 " + name + ", the act", x.taken(0), act);
        due.is("11 " + name + ", who", x.taken(1), who);
    }

    // ---- as things are now

    private static void now(LastTrain x, String name, int... want) {
        int[] got = {x.stays(0), x.stays(1), x.keep(0, 0), x.loose(1, 1), x.seats(9, 1), x.who(), x.ring(1),
            x.year(8, 1, 0), x.told(3), x.told(4), x.told(101), x.told(239)};
        for (int i = 0; i < got.length; i++) {
            due.is(name + ", row " + i, got[i], want[i]);
        }
    }

    private static void promises13to28asThingsAreNow() {
        LastTrain x = new LastTrain();
        x.law(1, 2);
        x.tie(0, 1, 0, 3);
        x.tie(1, 2, 0, 3);
        x.rung(1, true);
        now(x, "13 to 28 no months", 7, 1, 0, 5, 1016, 5, 2, 10, 0, 7, 3, 2);
        Due.say(x, "A-BD>A>J$D");
        due.is("8 all of them can be", x.judge(0), NONE);
        now(x, "13 to 28 months are only told", 7, 1, 0, 5, 1016, 5, 2, 10, 0, 7, 3, 2);
        x.done();
        now(x, "13 to 28 months are done", 526, 1, NONE, 4, 497, 4, 1, 9, 9, 526, 0, 3);
    }

    private static void promise13and14whoeverWaits() {
        LastTrain x = new LastTrain();
        x.law(0, 2);
        for (int one = 0; one < 4; one++) {
            x.tie(one, one + 1, 0, 5);
        }
        String[] texts = {"", "C>", "A>B>D>", "C>E>F>"};
        int[] wait = {0, 4, 15, 59};
        for (int i = 0; i < texts.length; i++) {
            Due.live(x, texts[i]);
            due.is("28 who waits: " + i, x.told(3), wait[i]);
            due.is("13 whoever waits: " + i, x.stays(1), 3);
            due.is("14 whoever waits: " + i, x.keep(2, 0), 2);
            due.is("14 whoever waits: " + i, x.keep(2, 1), 0b01001);
        }
    }

    private static void promise16tiesToWhoCannotGo() {
        LastTrain x = new LastTrain();
        x.law(1, 5);
        x.tie(0, 1, 0, 1);
        x.tie(1, 2, 0, 9);
        due.is("16 a tie to who is missed", x.seats(9, 1), 0b1111111001);
        x.one(1, 0, 0);
        due.is("16 ties to who is away", x.seats(9, 1), 0b1111111101);
        x.one(1, 1, 0);
        x.tie(1, 2, 0, 4);
        due.is("16 ties to who could go", x.seats(9, 1), 0b1111111101);
        x.tie(0, 2, 0, 1);
        due.is("16 one of three who could go", x.seats(9, 1), 0b1111111001);
    }

    private static void promises17to24byTheirNumbersAlone() {
        LastTrain[] both = {new LastTrain(), Lived.made("B>.")};
        both[0].law(0, 2);
        for (LastTrain x : both) {
            due.is("17 by its odds alone", x.calls(123456, 0), 2339);
            due.is("17 by its odds alone", x.calls(123456, 1), 1250);
            due.is("18 by its odds alone", x.order(121212), 135024);
            due.is("23 by enough alone", x.answers(3, 5, 0, 0), 1);
            due.is("23 by enough alone", x.answers(3, 5, 1, 0), 11);
            due.is("23 by enough alone", x.answers(3, 5, 1, 1), 4);
            due.is("24 by the number alone", x.number(17, 1), 7);
            due.is("24 by the number alone", x.number(10, 0), 0);
        }
    }

    private static void promise21byTiesAsTheyAre() {
        LastTrain x = new LastTrain();
        x.tie(0, 1, 0, 5);
        x.rung(0, true);
        x.rung(2, false);
        due.is("21 by a tie", x.who(), 0b10);
        x.tie(0, 3, 3, 1);
        due.is("21 by a tie that came later", x.who(), 0b1010);
        x.tie(1, 2, 1, 1);
        due.is("21 by a no that holds no more", x.who(), 0b1000);
        Due.live(x, "A-DA$C");
        due.is("21 C says no of itself", x.who(), 0b100);
        x.image(0);
        x.forget();
        x.rung(0, false);
        due.is("21 the others", x.who(), 0b1111111001 & ~0b100);
        x.restore(0);
        due.is("27 as they were said", x.who(), 0b100);
    }

    // ---- a year, draw by draw

    private static void years(LastTrain x, String name, int seed, int m, int here, int ties, int cut) {
        due.is("25 " + name + ", how many", x.year(seed, m, 0), here);
        due.is("25 " + name + ", ties", x.year(seed, m, 1), ties);
        due.is("25 " + name + ", cut", x.year(seed, m, 2), cut);
    }

    private static void promise25waiting() {
        LastTrain x = new LastTrain();
        // 3674: E waits, by 4. 13476: a night.
        years(x, "it waits only", 48, 1, 10, 0, 0);
        years(x, "it waits by 4, and goes", 48, 2, 9, 0, 0);
        // 7724: E waits, by 5. 55078: a night.
        years(x, "it waits by 5, and goes", 102, 2, 9, 0, 0);
        // 3651: B waits, by 4. 11751: not any more, by 5. 29418: a night that can not be.
        years(x, "it waits no more", 3543, 3, 10, 0, 0);
        // 54824: E waits. 48580: A waits. 39039: a night.
        years(x, "two wait, one night", 730, 3, 8, 0, 0);
        Due.live(x, "E>");
        years(x, "it waited already, by 4", 48, 2, 10, 0, 0);
        years(x, "it waited already, by 5", 102, 2, 10, 0, 0);
        years(x, "another one with it", 3777, 3, 9, 0, 0);
        due.is("28 it waits still", x.told(3), 16);
    }

    private static void promise25whatCanNotBe() {
        LastTrain x = new LastTrain();
        // 899, 1799, 299, 1199: J and J meet, by 0 and by 1, quarrel, and a loan.
        int[] alone = {11, 23, 3, 15};
        for (int seed : alone) {
            years(x, "both are one, by " + seed, seed, 1, 10, 0, 0);
        }
        // 50924: E waits. 18228: a night. 56434: E waits, if it is there.
        years(x, "who went waits no more", 678, 3, 9, 0, 0);
        // 30837: H waits. 19054: a night. 52847: H and E meet, if both are there.
        years(x, "who went meets nobody", 1284, 3, 9, 0, 0);
        x.one(7, 1, 1);
        years(x, "who stayed does", 1284, 3, 10, 2, 0);
        x.one(4, 0, 0);
        years(x, "unless the other one is away", 1284, 3, 9, 0, 0);
        years(x, "who is away can not wait", 48, 2, 9, 0, 0);
        years(x, "who is away has no loan", 4, 1, 9, 0, 0);
    }

    private static void promise25ties() {
        LastTrain x = new LastTrain();
        // 5774: E and H meet, by 1. 39902: a month.
        years(x, "2 more, 1 less", 76, 2, 10, 1, 0);
        // 1949: a loan of J and E. 15175: a month that can not be, as it is a debt.
        years(x, "a debt is not less", 25, 2, 10, 9, 0);
        x.tie(0, 1, 0, 5);
        years(x, "but another tie is", 25, 2, 10, 13, 0);
        x.tie(0, 1, 0, 0);
        // 41901: a loan of B and A. 62410: they meet, but their tie is 9 already.
        years(x, "9 already", 4053, 2, 10, 9, 0);
        // 44024: E and C meet. 25024: they quarrel.
        years(x, "3 less of 2", 586, 1, 10, 2, 0);
        years(x, "3 less of 2", 586, 2, 10, 0, 0);
        x.tie(2, 4, 1, 8);
        years(x, "9 at most, 3 less", 586, 2, 10, 6, 0);
        x.tie(4, 9, 0, 4);
        x.law(1, 5);
        x.tie(4, 2, 0, 1);
        // 3674: E waits. 13476: a night: it has ties of 4 and of 1.
        years(x, "ties are as they are, whoever goes", 48, 2, 9, 5, 5);
        x.one(9, 0, 0);
        years(x, "no cut to who is away", 48, 2, 8, 5, 1);
    }

    private static void promise25fromAllAsItIs() {
        LastTrain x = new LastTrain();
        x.one(4, 1, 1);
        years(x, "it has a dog", 48, 2, 10, 0, 0);
        x.law(3, 0);
        years(x, "dogs do not count", 48, 2, 9, 0, 0);
        x.tie(4, 1, 3, 3);
        years(x, "it has a debt", 48, 2, 10, 3, 0);
        x.law(2, 0);
        years(x, "debts do not count", 48, 2, 9, 3, 3);
        x.tie(4, 1, 0, 3);
        x.law(1, 3);
        years(x, "strong by 3 from 3", 48, 2, 10, 3, 0);
        x.law(1, 4);
        years(x, "strong by 3 from 4", 48, 2, 9, 3, 3);
        x.law(1, 1);
        x.law(0, 2);
        years(x, "one of two", 48, 2, 9, 3, 3);
        x.law(3, 1);
        years(x, "one of two, and a dog", 48, 2, 10, 3, 0);
        due.is("28 it does not wait", x.told(3), 0);
    }
}
