import java.util.ArrayList;
import java.util.LinkedHashMap;
import java.util.List;
import java.util.Map;
import java.util.function.ToLongFunction;

/**
 * What each call changes, by the promise's number, and that it changes nothing else: all that an object holds is
 * looked at without the call and behind it, its images too.
 */
public final class ChangesTest {
    private static final Due due = new Due();

    private static String months = "";

    public static void main(String[] args) {
        months = "B>.";
        changes2to6();
        changes12();
        changes19to27();
        String[] texts = {"", "B>.", "A-BC$DHd~I>B>.", "..", "A+"};
        for (String text : texts) {
            months = text;
            tells();
        }
        due.end();
    }

    private static LastTrain made() {
        return Lived.made(months);
    }

    /** The call's answer, and each row that is another one behind it, as "what it was>what it is". */
    private static void changes(String call, ToLongFunction<LastTrain> asked, long answer, String... rows) {
        LastTrain x = made();
        due.is(call, asked.applyAsLong(x), answer);
        due.isText("changed by " + call, changed(all(made()), all(x)).toString(), List.of(rows).toString());
    }

    private static List<String> changed(Map<String, Integer> was, Map<String, Integer> is) {
        List<String> rows = new ArrayList<>();
        for (String row : was.keySet()) {
            if (!was.get(row).equals(is.get(row))) {
                rows.add(row + " " + was.get(row) + ">" + is.get(row));
            }
        }
        return rows;
    }

    private static Map<String, Integer> all(LastTrain x) {
        Map<String, Integer> rows = new LinkedHashMap<>();
        look(x, "", rows);
        for (int k = 0; k < 2; k++) {
            rows.put("image " + k, x.restore(k));
            look(x, "image " + k + " ", rows);
        }
        return rows;
    }

    private static void look(LastTrain x, String where, Map<String, Integer> rows) {
        String[] told = {"signs", "city", "dogs", "waiting", "missed", "sights"};
        for (int what = 0; what < told.length; what++) {
            rows.put(where + told[what], x.told(what));
        }
        String[] law = {"enough", "from", "debts count", "dogs count"};
        for (int which = 0; which < law.length; which++) {
            rows.put(where + law[which], x.told(10 + which));
        }
        for (int one = 0; one < 10; one++) {
            for (int other = one + 1; other < 10; other++) {
                String both = "" + (char) ('A' + one) + (char) ('A' + other);
                rows.put(where + "strong " + both, x.told(100 + 10 * one + other));
                rows.put(where + "kind " + both, x.told(200 + 10 * one + other));
            }
        }
        rows.put(where + "fault", x.fault());
        rows.put(where + "who", x.who());
    }

    private static void changes2to6() {
        changes("2 tie", x -> x.tie(5, 9, 3, 1), 7, "missed 514>2", "strong FJ 7>1", "kind FJ 0>3");
        changes("2 tie, as it is", x -> x.tie(9, 5, 0, 7), 7);
        changes("3 one away", x -> x.one(9, 0, 1), 7, "city 943>431", "dogs 24>536", "waiting 545>33", "missed 514>2");
        changes("3 one back", x -> x.one(4, 1, 0), 9, "city 943>959", "dogs 24>8");
        changes("3 one as it is", x -> x.one(0, 1, 0), 8, "waiting 545>544");
        changes("3 one who is away", x -> x.one(6, 0, 0), 8);
        changes("4 enough", x -> x.law(0, 1), 2, "missed 514>807", "enough 2>1");
        changes("4 from", x -> x.law(1, 9), 2, "missed 514>0", "from 2>9", "who 5>1");
        changes("4 debts", x -> x.law(2, 0), 1, "missed 514>512", "debts count 1>0");
        changes("4 dogs", x -> x.law(3, 1), 0, "dogs count 0>1");
        // The pad is one, and in no image: whatever is restored, it is as it was left.
        changes("5 say", x -> x.say('A'), 4, "signs 3>4", "fault -6>4", "image 0 signs 3>4", "image 0 fault -6>4",
            "image 1 signs 3>4", "image 1 fault -6>4");
        changes("6 wipe", LastTrain::wipe, 3, "signs 3>0", "image 0 signs 3>0", "image 1 signs 3>0");
    }

    private static void changes12() {
        changes("12 A and F go", LastTrain::done, 2, "signs 3>0", "city 943>910", "waiting 545>0", "missed 514>0",
            "image 0 signs 3>0", "image 1 signs 3>0");
        months = "A-BC$DHd~";
        changes("12 no night", LastTrain::done, 4, "signs 9>0", "dogs 24>152", "missed 514>6", "strong AB 9>5",
            "strong CD 0>9", "kind CD 1>3", "strong FJ 7>6", "strong IJ 2>1", "who 5>1",
            "image 0 signs 9>0", "image 1 signs 9>0");
        months = "";
        changes("12 no acts", LastTrain::done, 0);
        months = "B>.";
    }

    private static void changes19to27() {
        changes("19 a yes", x -> x.rung(5, true), 4, "sights 3>4", "who 5>0");
        changes("19 a no", x -> x.rung(5, false), 4, "sights 3>4");
        changes("20 forget", LastTrain::forget, 3, "sights 3>0", "who 5>1023");
        changes("26 the first image", x -> x.image(0), 1, "image 0 city 1007>943", "image 0 waiting 513>545",
            "image 0 missed 783>514", "image 0 sights 2>3", "image 0 enough 1>2", "image 0 dogs count 1>0",
            "image 0 strong FJ 0>7", "image 0 kind FJ 2>0");
        changes("26 the second image", x -> x.image(1), 1, "image 1 waiting 513>545", "image 1 dogs count 1>0",
            "image 1 strong FJ 6>7", "image 1 kind FJ 2>0");
        changes("27 the first image", x -> x.restore(0), 1, "city 943>1007", "waiting 545>513", "missed 514>783",
            "sights 3>2", "enough 2>1", "dogs count 0>1", "strong FJ 7>0", "kind FJ 0>2");
        changes("27 the second image", x -> x.restore(1), 1, "waiting 545>513", "dogs count 0>1",
            "strong FJ 7>6", "kind FJ 0>2");
    }

    /** A call that tells changes nothing, and tells the same when it is asked again. */
    private static void tells(String call, ToLongFunction<LastTrain> asked) {
        LastTrain x = made();
        String named = call + " beside " + months;
        due.is(named + ", asked again", asked.applyAsLong(x), asked.applyAsLong(x));
        due.isText("changed by " + named, changed(all(made()), all(x)).toString(), "[]");
    }

    private static void tells() {
        tells("7 fault", LastTrain::fault);
        for (int asked = 0; asked < 3; asked++) {
            int what = asked;
            tells("8 judge", x -> x.judge(what));
            tells("9 behind", x -> x.behind(8, what));
            tells("10 city", x -> x.city(what));
            tells("11 taken", x -> x.taken(what));
            tells("13 stays", x -> x.stays(what));
            tells("14 keep", x -> x.keep(9, what));
            tells("15 loose", x -> x.loose(9, what));
            tells("16 seats", x -> x.seats(9, what));
            tells("17 calls", x -> x.calls(123456, what));
            tells("22 ring", x -> x.ring(what));
            tells("23 answers", x -> x.answers(5, 5, what, 0));
            tells("24 number", x -> x.number(17, what));
            tells("25 year", x -> x.year(8, 99, what));
            tells("28 told", x -> x.told(what));
        }
        tells("18 order", x -> x.order(123456));
        tells("21 who", LastTrain::who);
    }
}
