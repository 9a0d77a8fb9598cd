/**
 * The last train of that city: who is missed, who may go, whom the clerk should ring.
 * Every answer is a number; all rows are made with the object, so that no call makes any.
 */
public final class LastTrain {
    public static final int UNKNOWN = -1, OUTSIDE = -2, STATE = -3, FULL = -4, NO = -5, NONE = -6;
    public static final long GONE = -1000000000000000000L;

    private static final int ONES = 10;
    private static final int EVERYBODY = (1 << ONES) - 1;
    private static final int STRONGEST = 9;
    private static final int SIGNS_MOST = 60;
    private static final int SIGHTS_MOST = 8;

    private static final int HABIT = 2;
    private static final int DEBT = 3;

    private static final int ENOUGH = 0;
    private static final int FROM = 1;
    private static final int DEBTS = 2;
    private static final int DOGS = 3;
    private static final int LAWS = 4;

    private static final int MEETING = '+';
    private static final int QUARREL = '-';
    private static final int LOAN = '$';
    private static final int DOG = 'd';
    private static final int WAITING = '>';
    private static final int NIGHT = '.';
    private static final int MONTH = '~';

    private static final int GRANTED = 0;

    private static final int CAN_BE = 0;
    private static final int NOT_HERE = 1;
    private static final int BOTH_ONE = 2;
    private static final int TIE_FORBIDS = 3;
    private static final int NOBODY_WAITS = 4;
    private static final int NOTHING_FADES = 5;

    private static final int RUNG_IN_ORDER = 6;
    private static final int PLACES_BELOW_ONE = 100000;
    private static final int[] DRAWN_DEEDS = {'+', '+', '-', '$', '>', '>', '.', '~'};

    private final Town town = new Town();
    private final Town firstImage = new Town();
    private final Town secondImage = new Town();
    private int imagesKept = 0;
    private final Pad pad = new Pad();
    private final Course course = new Course();
    private final Platform platform = new Platform();
    private final Answers round = new Answers();

    public LastTrain() {
    }

    // ---- 1 people, ties, the law

    public int tie(int one, int other, int kind, int v) {
        if (!isOne(one) || !isOne(other) || one == other) {
            return UNKNOWN;
        }
        if (!isWithin(kind, 0, DEBT) || !isWithin(v, 0, STRONGEST)) {
            return OUTSIDE;
        }
        int was = town.strength(one, other);
        town.bind(one, other, kind, v);
        return was;
    }

    public int one(int one, int here, int dog) {
        if (!isOne(one)) {
            return UNKNOWN;
        }
        if (!isFlag(here) || !isFlag(dog)) {
            return OUTSIDE;
        }
        town.place(one, here == 1, dog == 1);
        return Integer.bitCount(town.here);
    }

    public int law(int which, int v) {
        if (!isWithin(which, 0, LAWS - 1) || !isLawful(which, v)) {
            return OUTSIDE;
        }
        int was = town.rule(which);
        town.setRule(which, v);
        return was;
    }

    public int say(int sign) {
        if (!isWithin(sign, 33, 126)) {
            return OUTSIDE;
        }
        return pad.add(sign) ? pad.length : FULL;
    }

    public int wipe() {
        int was = pad.length;
        pad.length = 0;
        return was;
    }

    public int fault() {
        return pad.firstFault();
    }

    // ---- 2 months

    public int judge(int what) {
        if (!isWithin(what, 0, 2)) {
            return OUTSIDE;
        }
        int refusal = course.play(pad, town);
        if (refusal == NO || what == 2 && refusal == STATE) {
            return refusal;
        }
        if (what == 2) {
            return course.wentCount;
        }
        if (refusal != STATE) {
            return NONE;
        }
        return what == 0 ? course.acts : course.stuckReason;
    }

    public int behind(int one, int what) {
        if (!isOne(one)) {
            return UNKNOWN;
        }
        if (!isWithin(what, 0, 4)) {
            return OUTSIDE;
        }
        int refusal = course.play(pad, town);
        return refusal != GRANTED ? refusal : course.town.toldOf(one, what);
    }

    public int city(int what) {
        if (!isWithin(what, 0, 2)) {
            return OUTSIDE;
        }
        int refusal = course.play(pad, town);
        if (refusal != GRANTED) {
            return refusal;
        }
        if (what == 0) {
            return course.town.here;
        }
        return what == 1 ? course.town.missed() : course.cut;
    }

    public int taken(int what) {
        if (!isFlag(what)) {
            return OUTSIDE;
        }
        int refusal = course.play(pad, town);
        if (refusal != GRANTED) {
            return refusal;
        }
        return what == 0 ? course.takenAct : course.takenOne;
    }

    public int done() {
        int refusal = course.play(pad, town);
        if (refusal != GRANTED) {
            return refusal;
        }
        town.copyFrom(course.town);
        pad.length = 0;
        return course.acts;
    }

    // ---- 3 who stays, who could go

    public int stays(int what) {
        if (!isFlag(what)) {
            return OUTSIDE;
        }
        platform.lookAt(town);
        return what == 0 ? platform.remaining(0) : platform.nightsOfLeaving();
    }

    public int keep(int one, int what) {
        if (!town.isHere(one)) {
            return UNKNOWN;
        }
        if (!isFlag(what)) {
            return OUTSIDE;
        }
        platform.lookAt(town);
        int fewest = platform.fewestToKeep(one);
        return what == 1 || fewest == NONE ? fewest : Integer.bitCount(fewest);
    }

    public int loose(int one, int what) {
        if (!town.isHere(one)) {
            return UNKNOWN;
        }
        if (!isFlag(what)) {
            return OUTSIDE;
        }
        int missing = town.missingIt(one) & town.here;
        int tooMany = Math.max(0, Integer.bitCount(missing) - town.tiesNeeded(one) + 1);
        if (tooMany > Integer.bitCount(missing)) {
            return NONE;
        }
        return what == 0 ? tooMany : leastOf(missing, tooMany);
    }

    public int seats(int n, int what) {
        if (!isWithin(n, 0, 9) || !isFlag(what)) {
            return OUTSIDE;
        }
        int seated = platform.mostStrangers(town, n);
        return what == 0 ? Integer.bitCount(seated) : seated;
    }

    public long calls(int odds, int part) {
        if (!isWithin(odds, 0, 999999) || !isFlag(part)) {
            return GONE + OUTSIDE;
        }
        long upper = 0;
        long silent = 1;
        int rung = 0;
        for (int place = 0; place < RUNG_IN_ORDER; place++) {
            upper = upper * 10 + silent;
            int next = likeliest(odds, rung);
            silent *= 10 - digit(odds, next);
            rung |= 1 << next;
        }
        return partOf(upper, PLACES_BELOW_ONE, part);
    }

    public int order(int odds) {
        if (!isWithin(odds, 0, 999999)) {
            return OUTSIDE;
        }
        int told = 0;
        int rung = 0;
        for (int place = 0; place < RUNG_IN_ORDER; place++) {
            int next = likeliest(odds, rung);
            told = told * 10 + next;
            rung |= 1 << next;
        }
        return told;
    }

    // ---- 4 who he is, answers, numbers

    public int rung(int one, boolean yes) {
        if (!isOne(one)) {
            return UNKNOWN;
        }
        return town.addSight(one, yes) ? town.sights : FULL;
    }

    public int forget() {
        int was = town.sights;
        town.dropSights();
        return was;
    }

    public int who() {
        return town.fitting();
    }

    public int ring(int what) {
        if (!isFlag(what)) {
            return OUTSIDE;
        }
        int fitting = town.fitting();
        if (fitting == 0) {
            return NONE;
        }
        int best = 0;
        for (int one = 1; one < ONES; one++) {
            if (town.leftAtMost(one, fitting) < town.leftAtMost(best, fitting)) {
                best = one;
            }
        }
        return what == 0 ? best : town.leftAtMost(best, fitting);
    }

    public long answers(int n, int t, int what, int part) {
        if (!isWithin(n, 0, 10) || !isWithin(t, 0, 10) || !isFlag(what) || !isFlag(part)) {
            return GONE + OUTSIDE;
        }
        round.ringAll(n, t, town.rule(ENOUGH));
        return partOf(what == 0 ? round.enoughSaidIt : round.callsMade, round.lower, part);
    }

    /*
     * Who faces a last digit of 0 must leave another one; who faces another one can take it and
     * leave a 0, and by that digit alone: so the last digit tells all.
     */
    public int number(int n, int what) {
        if (!isWithin(n, 0, 999) || !isFlag(what)) {
            return OUTSIDE;
        }
        int last = n % 10;
        if (what == 0) {
            return last == 0 ? 0 : 1;
        }
        return last == 0 ? NONE : last;
    }

    public int year(int seed, int m, int what) {
        if (!isWithin(seed, 0, 9999) || !isWithin(m, 1, 99) || !isWithin(what, 0, 2)) {
            return OUTSIDE;
        }
        course.startFrom(town);
        int x = seed;
        for (int draw = 0; draw < m; draw++) {
            x = (75 * x + 74) % 65537;
            course.attempt(drawnDeed(x / 100 % 8), x % 10, x / 10 % 10);
        }
        if (what == 0) {
            return Integer.bitCount(course.town.here);
        }
        return what == 1 ? course.town.strengthOfAll() : course.cut;
    }

    public int image(int k) {
        if (!isFlag(k)) {
            return OUTSIDE;
        }
        imageOf(k).copyFrom(town);
        imagesKept |= 1 << k;
        return 1;
    }

    public int restore(int k) {
        if (!isFlag(k)) {
            return OUTSIDE;
        }
        if (!holds(imagesKept, k)) {
            return STATE;
        }
        town.copyFrom(imageOf(k));
        return 1;
    }

    public int told(int what) {
        if (isWithin(what, 10, 10 + LAWS - 1)) {
            return town.rule(what - 10);
        }
        if (isWithin(what, 100, 199)) {
            return town.strength(what / 10 % 10, what % 10);
        }
        if (isWithin(what, 200, 299)) {
            return town.kind(what / 10 % 10, what % 10);
        }
        switch (what) {
            case 0: return pad.length;
            case 1: return town.here;
            case 2: return town.dogs;
            case 3: return town.waiting;
            case 4: return town.missed();
            case 5: return town.sights;
            default: return OUTSIDE;
        }
    }

    // ---- what the calls share

    private Town imageOf(int k) {
        return k == 0 ? firstImage : secondImage;
    }

    private static boolean isWithin(int number, int least, int most) {
        return number >= least && number <= most;
    }

    private static boolean isFlag(int number) {
        return number == 0 || number == 1;
    }

    private static boolean isOne(int one) {
        return one >= 0 && one < ONES;
    }

    private static boolean isLetter(int sign) {
        return isOne(sign - 'A');
    }

    private static boolean isLawful(int which, int v) {
        return which == ENOUGH || which == FROM ? isWithin(v, 1, 9) : isFlag(v);
    }

    private static boolean holds(int bits, int one) {
        return (bits >> one & 1) == 1;
    }

    private static int leastOf(int bits, int howMany) {
        int least = 0;
        int missing = howMany;
        for (int one = 0; one < ONES && missing > 0; one++) {
            if (holds(bits, one)) {
                least |= 1 << one;
                missing--;
            }
        }
        return least;
    }

    private static int leastOne(int bits) {
        for (int one = 0; one < ONES; one++) {
            if (holds(bits, one)) {
                return one;
            }
        }
        return NONE;
    }

    private static int digit(int odds, int place) {
        int left = odds;
        for (int below = place + 1; below < RUNG_IN_ORDER; below++) {
            left /= 10;
        }
        return left % 10;
    }

    /*
     * To ring a likelier one ahead of a less likely one always saves calls, as nobody is sure to
     * say yes; so the best orders differ only in those who are alike, and the least goes by them.
     */
    private static int likeliest(int odds, int rung) {
        int best = RUNG_IN_ORDER;
        for (int one = 0; one < RUNG_IN_ORDER; one++) {
            boolean better = best == RUNG_IN_ORDER || digit(odds, one) > digit(odds, best);
            if (!holds(rung, one) && better) {
                best = one;
            }
        }
        return best;
    }

    private static int drawnDeed(int draw) {
        return draw >= 0 && draw < DRAWN_DEEDS.length ? DRAWN_DEEDS[draw] : MONTH;
    }

    private static long partOf(long upper, long lower, int part) {
        long common = commonDivisor(upper, lower);
        if (common == 0) {
            return part == 0 ? upper : lower;
        }
        return (part == 0 ? upper : lower) / common;
    }

    private static long commonDivisor(long upper, long lower) {
        long greater = upper;
        long less = lower;
        // A remainder is at most half of what it is left of, two steps on: 200 steps end any long.
        for (int step = 0; step < 200 && less != 0; step++) {
            long left = greater % less;
            greater = less;
            less = left;
        }
        return greater;
    }

    /** The text of the months, and where it goes wrong. */
    private static final class Pad {
        private static final int ACT_DUE = 0;
        private static final int DEED_DUE = 1;
        private static final int OTHER_DUE = 2;
        private static final int BROKEN = 3;

        private final int[] signs = new int[SIGNS_MOST];
        int length = 0;

        boolean add(int sign) {
            if (length < 0 || length >= signs.length) {
                return false;
            }
            signs[length] = sign;
            length++;
            return true;
        }

        int signAt(int place) {
            return place >= 0 && place < length && place < signs.length ? signs[place] : 0;
        }

        int firstFault() {
            int due = ACT_DUE;
            for (int place = 0; place < length; place++) {
                due = dueAfter(due, signAt(place));
                if (due == BROKEN) {
                    return place;
                }
            }
            return due == ACT_DUE ? NONE : length;
        }

        private static int dueAfter(int due, int sign) {
            if (due == DEED_DUE) {
                if (sign == DOG || sign == WAITING) {
                    return ACT_DUE;
                }
                return isOfTwo(sign) ? OTHER_DUE : BROKEN;
            }
            if (due == ACT_DUE && isOfNobody(sign)) {
                return ACT_DUE;
            }
            if (!isLetter(sign)) {
                return BROKEN;
            }
            return due == ACT_DUE ? DEED_DUE : ACT_DUE;
        }

        static boolean isOfTwo(int deed) {
            return deed == MEETING || deed == QUARREL || deed == LOAN;
        }

        static boolean isOfNobody(int deed) {
            return deed == NIGHT || deed == MONTH;
        }

        int deedFrom(int place) {
            int sign = signAt(place);
            return isOfNobody(sign) ? sign : signAt(place + 1);
        }

        static int lengthOf(int deed) {
            if (isOfNobody(deed)) {
                return 1;
            }
            return isOfTwo(deed) ? 3 : 2;
        }
    }

    /** All that an image keeps: people, ties, the law, sights. */
    private static final class Town {
        int here = EVERYBODY;
        int dogs = 0;
        int waiting = 0;
        int sights = 0;
        private int yeses = 0;
        private final int[] strengths = new int[ONES * ONES];
        private final int[] kinds = new int[ONES * ONES];
        private final int[] rules = new int[LAWS];
        private final int[] rungOnes = new int[SIGHTS_MOST];

        Town() {
            for (int cell = 0; cell < kinds.length; cell++) {
                kinds[cell] = HABIT;
            }
            for (int which = 0; which < rules.length; which++) {
                rules[which] = 1;
            }
        }

        void copyFrom(Town other) {
            if (other == null) {
                return;
            }
            here = other.here;
            dogs = other.dogs;
            waiting = other.waiting;
            sights = other.sights;
            yeses = other.yeses;
            copyRow(other.strengths, strengths);
            copyRow(other.kinds, kinds);
            copyRow(other.rules, rules);
            copyRow(other.rungOnes, rungOnes);
        }

        private static void copyRow(int[] from, int[] to) {
            for (int i = 0; i < from.length && i < to.length; i++) {
                to[i] = from[i];
            }
        }

        // -- ties and the law

        int strength(int one, int other) {
            if (one < 0 || one >= ONES || other < 0 || other >= ONES) {
                return 0;
            }
            return strengths[one * ONES + other];
        }

        int kind(int one, int other) {
            if (one < 0 || one >= ONES || other < 0 || other >= ONES || one == other) {
                return NONE;
            }
            return kinds[one * ONES + other];
        }

        void bind(int one, int other, int kind, int v) {
            if (one < 0 || one >= ONES || other < 0 || other >= ONES || one == other) {
                return;
            }
            strengths[one * ONES + other] = v;
            strengths[other * ONES + one] = v;
            kinds[one * ONES + other] = kind;
            kinds[other * ONES + one] = kind;
        }

        int rule(int which) {
            return which >= 0 && which < rules.length ? rules[which] : 0;
        }

        void setRule(int which, int v) {
            if (which >= 0 && which < rules.length) {
                rules[which] = v;
            }
        }

        // -- who is missed

        boolean isHere(int one) {
            return one >= 0 && one < ONES && (here >> one & 1) == 1;
        }

        void place(int one, boolean inCity, boolean withDog) {
            int bit = 1 << one;
            here = inCity ? here | bit : here & ~bit;
            dogs = withDog ? dogs | bit : dogs & ~bit;
            waiting &= ~bit;
        }

        /** Those with a tie to it that is strong by so much (1 at least) or more. */
        int tiedTo(int one, int least) {
            int bits = 0;
            for (int other = 0; other < ONES; other++) {
                if (strength(one, other) >= least) {
                    bits |= 1 << other;
                }
            }
            return bits;
        }

        /** Those by whom it would be missed, were all of them in the city. */
        int missingIt(int one) {
            int from = rule(FROM);
            boolean debtsCount = rule(DEBTS) == 1;
            int bits = 0;
            for (int other = 0; other < ONES; other++) {
                if (strength(one, other) >= from && (debtsCount || kind(one, other) != DEBT)) {
                    bits |= 1 << other;
                }
            }
            return bits;
        }

        int tiesNeeded(int one) {
            return rule(DOGS) == 1 && holds(dogs, one) ? rule(ENOUGH) - 1 : rule(ENOUGH);
        }

        int missed() {
            int bits = 0;
            for (int one = 0; one < ONES; one++) {
                if (isHere(one) && Integer.bitCount(missingIt(one) & here) >= tiesNeeded(one)) {
                    bits |= 1 << one;
                }
            }
            return bits;
        }

        int strengthBetween(int some, int others) {
            int sum = 0;
            for (int one = 0; one < ONES; one++) {
                for (int other = 0; other < ONES; other++) {
                    if (holds(some, one) && holds(others, other)) {
                        sum += strength(one, other);
                    }
                }
            }
            return sum;
        }

        int strengthOfAll() {
            // Each tie is met from both of its ends.
            return strengthBetween(EVERYBODY, EVERYBODY) / 2;
        }

        int toldOf(int one, int what) {
            switch (what) {
                case 0: return isHere(one) ? 1 : 0;
                case 1: return holds(dogs, one) ? 1 : 0;
                case 2: return holds(waiting, one) ? 1 : 0;
                case 3:
                    if (!isHere(one)) {
                        return NONE;
                    }
                    return holds(missed(), one) ? 1 : 0;
                default: return strengthBetween(1 << one, here);
            }
        }

        // -- acts

        int reasonAgainst(int deed, int first, int other) {
            if (deed == NIGHT) {
                return waiting == 0 ? NOBODY_WAITS : CAN_BE;
            }
            if (deed == MONTH) {
                return anyTieFades() ? CAN_BE : NOTHING_FADES;
            }
            if (!isHere(first)) {
                return NOT_HERE;
            }
            if (deed == DOG || deed == WAITING) {
                return CAN_BE;
            }
            if (!isHere(other)) {
                return NOT_HERE;
            }
            if (first == other) {
                return BOTH_ONE;
            }
            return tieForbids(deed, first, other) ? TIE_FORBIDS : CAN_BE;
        }

        private boolean tieForbids(int deed, int first, int other) {
            int strength = strength(first, other);
            if (deed == QUARREL) {
                return strength == 0;
            }
            return strength == STRONGEST && (deed == MEETING || kind(first, other) == DEBT);
        }

        private boolean fades(int one, int other) {
            return isHere(one) && isHere(other) && kind(one, other) != DEBT && strength(one, other) > 0;
        }

        private boolean anyTieFades() {
            for (int one = 0; one < ONES; one++) {
                for (int other = one + 1; other < ONES; other++) {
                    if (fades(one, other)) {
                        return true;
                    }
                }
            }
            return false;
        }

        private void fadeAll() {
            for (int one = 0; one < ONES; one++) {
                for (int other = one + 1; other < ONES; other++) {
                    if (fades(one, other)) {
                        bind(one, other, kind(one, other), strength(one, other) - 1);
                    }
                }
            }
        }

        /** An act that can be, but for a night. */
        void perform(int deed, int first, int other) {
            int kind = kind(first, other);
            int strength = strength(first, other);
            switch (deed) {
                case MEETING:
                    bind(first, other, kind, Math.min(STRONGEST, strength + 2));
                    break;
                case QUARREL:
                    bind(first, other, kind, Math.max(0, strength - 3));
                    break;
                case LOAN:
                    bind(first, other, DEBT, STRONGEST);
                    break;
                case DOG:
                    dogs ^= 1 << first;
                    break;
                case WAITING:
                    waiting ^= 1 << first;
                    break;
                case MONTH:
                    fadeAll();
                    break;
                default:
                    break;
            }
        }

        void endNight(int gone) {
            here &= ~gone;
            waiting = 0;
        }

        // -- sights

        boolean addSight(int one, boolean yes) {
            if (sights < 0 || sights >= rungOnes.length) {
                return false;
            }
            rungOnes[sights] = one;
            if (yes) {
                yeses |= 1 << sights;
            }
            sights++;
            return true;
        }

        void dropSights() {
            sights = 0;
            yeses = 0;
        }

        /** The ones by which all sights are so. */
        int fitting() {
            int fitting = EVERYBODY;
            for (int sight = 0; sight < sights && sight < rungOnes.length; sight++) {
                int yesOf = tiedTo(rungOnes[sight], rule(FROM));
                fitting &= holds(yeses, sight) ? yesOf : ~yesOf;
            }
            return fitting;
        }

        int leftAtMost(int rungNext, int fitting) {
            int yesOf = tiedTo(rungNext, rule(FROM));
            return Math.max(Integer.bitCount(fitting & yesOf), Integer.bitCount(fitting & ~yesOf));
        }
    }

    /** Acts one by one on a town of its own, with what is told of them. */
    private static final class Course {
        final Town town = new Town();
        int acts = 0;
        int stuckReason = CAN_BE;
        int wentCount = 0;
        int cut = 0;
        int takenAct = NONE;
        int takenOne = NONE;

        void startFrom(Town start) {
            town.copyFrom(start);
            acts = 0;
            stuckReason = CAN_BE;
            wentCount = 0;
            cut = 0;
            takenAct = NONE;
            takenOne = NONE;
        }

        /** The pad's months, up to the first act that can not be: GRANTED, or the refusal. */
        int play(Pad pad, Town start) {
            if (pad.firstFault() != NONE) {
                return NO;
            }
            startFrom(start);
            int place = 0;
            for (int act = 0; act < SIGNS_MOST && place < pad.length; act++) {
                int deed = pad.deedFrom(place);
                stuckReason = attempt(deed, pad.signAt(place) - 'A', pad.signAt(place + 2) - 'A');
                if (stuckReason != CAN_BE) {
                    return STATE;
                }
                place += Pad.lengthOf(deed);
            }
            return GRANTED;
        }

        int attempt(int deed, int first, int other) {
            int reason = town.reasonAgainst(deed, first, other);
            if (reason != CAN_BE) {
                return reason;
            }
            if (deed == NIGHT) {
                runTrain();
            } else {
                town.perform(deed, first, other);
            }
            acts++;
            return CAN_BE;
        }

        private void runTrain() {
            int gone = town.waiting & ~town.missed();
            town.endNight(gone);
            if (gone == 0) {
                return;
            }
            wentCount += Integer.bitCount(gone);
            cut += town.strengthBetween(gone, town.here);
            if (takenAct == NONE) {
                takenAct = acts;
                takenOne = leastOne(gone);
            }
        }
    }

    /** A town's people as bits, so that many sets of them can be tried. */
    private static final class Platform {
        private final int[] missing = new int[ONES];
        private final int[] needed = new int[ONES];
        private final int[] tied = new int[ONES];
        private int here = 0;

        void lookAt(Town town) {
            here = town.here;
            for (int one = 0; one < ONES; one++) {
                missing[one] = town.missingIt(one);
                needed[one] = town.tiesNeeded(one);
                tied[one] = town.tiedTo(one, 1);
            }
        }

        /** Who is there after a night in which all wait but those who never do. */
        private int afterNight(int there, int never) {
            int left = there & never;
            int waiting = there & ~never;
            for (int one = 0; one < ONES; one++) {
                if (holds(waiting, one) && Integer.bitCount(missing[one] & there) >= needed[one]) {
                    left |= 1 << one;
                }
            }
            return left;
        }

        int remaining(int never) {
            int there = here;
            // Each night but the last one takes somebody.
            for (int night = 0; night <= ONES; night++) {
                int left = afterNight(there, never);
                if (left == there) {
                    return there;
                }
                there = left;
            }
            return there;
        }

        int nightsOfLeaving() {
            int there = here;
            int nights = 0;
            for (int night = 0; night <= ONES; night++) {
                int left = afterNight(there, 0);
                if (left == there) {
                    return nights;
                }
                there = left;
                nights++;
            }
            return nights;
        }

        int fewestToKeep(int one) {
            int others = here & ~(1 << one);
            // More who never wait never hurt: if all of them do not help, none do.
            if (!holds(remaining(others), one)) {
                return NONE;
            }
            int best = others;
            for (int some = 0; some < EVERYBODY; some++) {
                boolean fewer = Integer.bitCount(some) < Integer.bitCount(best);
                if (fewer && (some & ~others) == 0 && holds(remaining(some), one)) {
                    best = some;
                }
            }
            return best;
        }

        /** The most who are not missed and have no ties among them, on so many seats. */
        int mostStrangers(Town town, int seats) {
            lookAt(town);
            int free = here & ~town.missed();
            int best = 0;
            for (int some = 0; some <= EVERYBODY; some++) {
                int count = Integer.bitCount(some);
                boolean more = count > Integer.bitCount(best) && count <= seats;
                if (more && (some & ~free) == 0 && areStrangers(some)) {
                    best = some;
                }
            }
            return best;
        }

        private boolean areStrangers(int some) {
            for (int one = 0; one < ONES; one++) {
                if (holds(some, one) && (tied[one] & some) != 0) {
                    return false;
                }
            }
            return true;
        }
    }

    /** The chances of a round of calls, over a power of ten. */
    private static final class Answers {
        /** The chance that just so many said yes, by how many. */
        private final long[] chances = new long[ONES + 1];
        long enoughSaidIt = 0;
        long callsMade = 0;
        long lower = 1;

        void ringAll(int n, int tenths, int enough) {
            startChances();
            lower = 1;
            callsMade = 0;
            for (int call = 0; call < n; call++) {
                // The next call is made in just those cases in which too few said yes so far.
                callsMade = (callsMade + tooFew(enough)) * 10;
                ringOne(tenths);
                lower *= 10;
            }
            enoughSaidIt = lower - tooFew(enough);
        }

        private void startChances() {
            for (int yeses = 0; yeses < chances.length; yeses++) {
                chances[yeses] = yeses == 0 ? 1 : 0;
            }
        }

        private void ringOne(int tenths) {
            long before = 0;
            for (int yeses = 0; yeses < chances.length; yeses++) {
                long now = chances[yeses];
                chances[yeses] = now * (10 - tenths) + before * tenths;
                before = now;
            }
        }

        private long tooFew(int enough) {
            long sum = 0;
            for (int yeses = 0; yeses < enough && yeses < chances.length; yeses++) {
                sum += chances[yeses];
            }
            return sum;
        }
    }
}
