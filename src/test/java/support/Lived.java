/** An object of which something is everywhere, so that whatever a call changes can be seen. */
final class Lived {
    private Lived() {
    }

    /** By 50 calls at most; its pad holds no months. */
    static LastTrain made() {
        LastTrain x = new LastTrain();
        x.tie(0, 1, 0, 9);
        x.tie(1, 2, 3, 4);
        x.tie(2, 3, 1, 0);
        x.tie(8, 9, 1, 2);
        x.one(3, 1, 1);
        x.one(4, 0, 1);
        x.law(1, 2);
        x.rung(1, true);
        x.rung(9, false);
        Due.live(x, "A>J>");
        x.image(0);
        x.tie(5, 9, 2, 6);
        x.law(0, 2);
        x.one(6, 0, 0);
        x.rung(3, false);
        x.image(1);
        x.tie(5, 9, 0, 7);
        x.law(3, 0);
        Due.live(x, "F>");
        return x;
    }

    /** The same, with these months on its pad. */
    static LastTrain made(String months) {
        LastTrain x = made();
        Due.say(x, months);
        return x;
    }
}
