import java.util.function.Supplier;
import java.util.function.ToLongFunction;

/**
 * Counts answers that are not as due, and looks at a whole object at once.
 * No object is asked more than the 512 calls for which it is promised: what needs more makes another one.
 */
final class Due {
    private int wrong = 0;
    private int asked = 0;

    void is(String call, long got, long want) {
        asked++;
        if (got != want) {
            wrong++;
            System.out.println(call + " answered " + got + ", due is " + want);
        }
    }

    void isText(String what, String got, String want) {
        asked++;
        if (!got.equals(want)) {
            wrong++;
            System.out.println(what + ": " + got + ", due is " + want);
        }
    }

    /** The call is refused so, and leaves all of the object as it was made. */
    void refused(Supplier<LastTrain> made, String call, ToLongFunction<LastTrain> answer, long want) {
        LastTrain x = made.get();
        is(call, answer.applyAsLong(x), want);
        isText("after " + call, lookThrough(x), lookThrough(made.get()));
    }

    static LastTrain months(String text) {
        LastTrain x = new LastTrain();
        say(x, text);
        return x;
    }

    static void say(LastTrain x, String text) {
        for (char sign : text.toCharArray()) {
            if (x.say(sign) < 0) {
                throw new IllegalStateException("the pad did not take " + text);
            }
        }
    }

    /** The pad as it is now, and nothing else on it. */
    static void write(LastTrain x, String text) {
        x.wipe();
        say(x, text);
    }

    /** The text is done in fact. */
    static void live(LastTrain x, String text) {
        write(x, text);
        if (x.done() < 0) {
            throw new IllegalStateException("it can not be done: " + text);
        }
    }

    static void allAway(LastTrain x) {
        for (int one = 0; one < 10; one++) {
            x.one(one, 0, 0);
        }
    }

    /** All that can be seen of an object without changing it, by 114 calls. */
    static String lookOf(LastTrain x) {
        StringBuilder look = new StringBuilder("told");
        for (int what = 0; what <= 13; what += what == 5 ? 5 : 1) {
            look.append(' ').append(x.told(what));
        }
        look.append(" ties");
        for (int one = 0; one < 10; one++) {
            for (int other = one + 1; other < 10; other++) {
                look.append(' ').append(x.told(200 + 10 * one + other));
                look.append(':').append(x.told(100 + 10 * one + other));
            }
        }
        look.append(" fault ").append(x.fault()).append(" judged");
        for (int what = 0; what < 3; what++) {
            look.append(' ').append(x.judge(what)).append(' ').append(x.city(what));
        }
        look.append(" who ").append(x.who());
        for (int what = 0; what < 2; what++) {
            look.append(' ').append(x.taken(what)).append(' ').append(x.ring(what)).append(' ').append(x.stays(what));
        }
        return look.toString();
    }

    /** What is kept in the images too: for that it restores them. 350 calls at most. */
    private static String lookThrough(LastTrain x) {
        StringBuilder look = new StringBuilder(lookOf(x));
        for (int k = 0; k < 2; k++) {
            int restored = x.restore(k);
            look.append(" image ").append(restored);
            if (restored == 1) {
                look.append(' ').append(lookOf(x));
            }
        }
        return look.toString();
    }

    void end() {
        System.out.println(wrong == 0 ? asked + " answers are as due" : wrong + " of " + asked + " are not as due");
        if (wrong != 0) {
            System.exit(1);
        }
    }
}
