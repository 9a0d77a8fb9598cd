import java.util.function.Supplier;

/** Counts answers that are not as due, and looks at a whole object at once. */
final class Due {
    private int wrong = 0;
    private int asked = 0;

    void is(String call, long got, long want) {
        asked++;
        if (got != want) {
            wrong++;
            System.out.println(call + " answered " + got + ", due is " + want);
        }
    }

    void isText(String what, String got, String want) {
        asked++;
        if (!got.equals(want)) {
            wrong++;
            System.out.println(what + ": " + got + ", due is " + want);
        }
    }

    /** The call is refused so, and leaves all as it was. */
    void refused(LastTrain x, String call, Supplier<Number> answer, long want) {
        String before = lookOf(x);
        is(call, answer.get().longValue(), want);
        isText("after " + call, lookOf(x), before);
    }

    static void say(LastTrain x, String text) {
        for (char sign : text.toCharArray()) {
            if (x.say(sign) < 0) {
                throw new IllegalStateException("the pad did not take " + text);
            }
        }
    }

    /** The pad as it is now, and nothing else on it. */
    static void write(LastTrain x, String text) {
        x.wipe();
        say(x, text);
    }

    /** All that can be seen of an object without changing it. */
    static String lookOf(LastTrain x) {
        StringBuilder look = new StringBuilder();
        for (int what = 0; what < 300; what++) {
            look.append(x.told(what)).append(' ');
        }
        look.append("fault ").append(x.fault()).append(" judged");
        for (int what = 0; what < 3; what++) {
            look.append(' ').append(x.judge(what)).append(' ').append(x.city(what));
        }
        look.append(" who ").append(x.who());
        return look.toString();
    }

    void end() {
        System.out.println(wrong == 0 ? asked + " answers are as due" : wrong + " of " + asked + " are not as due");
        if (wrong != 0) {
            System.exit(1);
        }
    }
}
