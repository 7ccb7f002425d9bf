import java.util.Arrays;

/**
 * Deals on a net: who lives where and may make what with whom is told as a text, by days;
 * each can be at one thing at a time.
 */
public final class RoadDeals {
    public static final int NONE = -1;

    // Refused, where NONE might be an answer.
    private static final int NO_NUMBER = -2000000000;

    private static final int MOST_PEOPLE = 12;
    private static final int MOST_ROADS = 30;
    private static final int MOST_TASTES = 24;
    private static final int MOST_DOUBTS = 24;
    private static final int MOST_ACTS = 200;
    private static final int MOST_BYTES = 900;
    private static final int MOST_LETTERS = 6;
    private static final int MOST_DIGITS = 4;
    private static final int MOST_DEALS = 6;
    private static final int MOST_ROUNDS = 1000;
    private static final int MOST_SETS = 1 << MOST_PEOPLE;
    private static final int LAST_DAY = 999;
    private static final int MOST_WORTH = 100000;
    private static final int MOST_MONEY = 1000000;
    private static final int FAR = 1000000000;

    // What an ACT may tell of a ROAD's WORTH beside a number.
    private static final int CLOSED = NONE;
    private static final int BY_TEXT = -2;

    private static final int REST = 0;
    private static final int RING = 1;
    private static final int NEITHER = 2;

    // Kinds of what stands in a text: a sign is its own byte, OWN WORDS count from 256 on.
    private static final int TEXT_END = -1;
    private static final int MISFIT = -2;
    private static final int WHO = 256;
    private static final int ALONE = 257;
    private static final int ROAD = 258;
    private static final int WORTH = 259;
    private static final int WHEN = 260;
    private static final int TASTE = 261;
    private static final int LESS = 262;
    private static final int DOUBT = 263;
    private static final int OR = 264;
    private static final int AND = 265;
    private static final int NOT = 266;
    private static final int ALL = 267;
    private static final int DAY = 268;
    private static final int WEEK = 269;
    private static final int WDAY = 270;
    private static final int MIN = 271;
    private static final int MAX = 272;
    private static final int NAME = 280;
    private static final int NUMBER = 281;

    // In the order of the kinds above, each with a blank behind.
    private static final String OWN_WORDS =
            "who alone road worth when taste less doubt or and not all day week wday min max ";

    private final Bytes tape = new Bytes(MOST_BYTES);
    private final Reader reader = new Reader(tape);
    private final Acts acts = new Acts();
    private Net net = new Net();
    private final View view = new View(net);
    private final Matching matching = new Matching();
    private final Plan plan = new Plan(view, matching);
    private final Plan otherPlan = new Plan(view, matching);
    private final int[] counts = new int[MOST_SETS];
    private final Deals deals = new Deals(view);
    private final Image image = new Image();
    private int today;
    private int known = NONE;
    private int faultKind;
    private int faultPlace = NONE;
    private int outcome = NONE;
    private boolean planStale = true;

    public RoadDeals() {
    }

    public int feed(int a, int b, int c, int d, int e) {
        if (!tape.hasRoom(20)) {
            return NONE;
        }
        tape.putNumber(a);
        tape.putNumber(b);
        tape.putNumber(c);
        tape.putNumber(d);
        tape.putNumber(e);
        return tape.size();
    }

    public boolean end(int n) {
        return tape.cut(n);
    }

    public int text() {
        boolean taken = reader.read();
        tape.cut(0);
        faultKind = reader.fault;
        faultPlace = reader.place;
        if (!taken) {
            return NONE;
        }
        net = reader.exchange(net);
        acts.clear();
        deals.clear();
        known = NONE;
        lookAgain();
        return net.statements;
    }

    public int fault(int what) {
        switch (what) {
            case 0: return faultKind;
            case 1: return faultPlace;
            default: return NONE;
        }
    }

    public int has(int what) {
        switch (what) {
            case 0: return net.people;
            case 1: return net.roads;
            case 2: return net.tastes;
            case 3: return net.doubts;
            case 4: return acts.count;
            case 5: return known == NONE ? acts.count : known;
            case 6: return deals.count;
            case 7: return today;
            default: return NONE;
        }
    }

    public int letter(int who, int k) {
        return isSomebody(who) ? net.letterOf(who, k) : NONE;
    }

    public int road(int road, int which) {
        if (!isRoad(road) || which < 0 || which > 1) {
            return NONE;
        }
        return which == 0 ? net.first[road] : net.second[road];
    }

    // ---- days and acts

    public boolean day(int day) {
        if (day < 0 || day > LAST_DAY) {
            return false;
        }
        today = day;
        lookAgain();
        return true;
    }

    public int worth(int road, int n) {
        if (!isRoad(road) || n < BY_TEXT || n > MOST_WORTH) {
            return NONE;
        }
        int act = acts.add(road, n);
        lookAgain();
        return act;
    }

    public int annul(int act) {
        int teller = acts.annulled(act);
        lookAgain();
        return teller;
    }

    public boolean as(int act) {
        if (act < NONE || act > acts.count) {
            return false;
        }
        known = act;
        lookAgain();
        return true;
    }

    public int made(int road, int what) {
        if (!isRoad(road) || !view.open[road]) {
            return NO_NUMBER;
        }
        switch (what) {
            case 0: return view.made[road];
            case 1: return Math.max(0, view.gainOf(road));
            case 2: return net.doubt[road];
            default: return NO_NUMBER;
        }
    }

    // ---- what all can make

    public int most(boolean halves) {
        Plan all = planNow();
        return halves ? all.twiceWithHalves() : all.mostOf(net.everybody());
    }

    public int row(int k) {
        Plan all = planNow();
        return k >= 0 && k < all.rowLength ? all.row[k] : NONE;
    }

    public int end(int who, boolean greatest) {
        Plan all = planNow();
        return isSomebody(who) && all.hasEnds() ? all.endOf(who, greatest) : NONE;
    }

    public int of(int set) {
        return set >= 0 && set <= net.everybody() ? planNow().mostOf(set) : NONE;
    }

    public int moves(int road, int n) {
        if (!isRoad(road) || n < CLOSED || n > MOST_WORTH) {
            return NONE;
        }
        Plan now = planNow();
        otherPlan.take(road, n);
        if (now.hasEnds() != otherPlan.hasEnds()) {
            return net.everybody();
        }
        return now.hasEnds() ? movedBetween(now, otherPlan) : 0;
    }

    public int pays(int road) {
        if (!isRoad(road)) {
            return NONE;
        }
        Plan now = planNow();
        otherPlan.take(road, CLOSED);
        if (!now.hasEnds() || !otherPlan.hasEnds()) {
            return 0;
        }
        int set = 0;
        for (int who = 0; who < net.people; who++) {
            if (otherPlan.endOf(who, false) > now.endOf(who, false)) {
                set |= 1 << who;
            }
        }
        return set;
    }

    public int two(int a, int b, boolean ahead, boolean greatest) {
        if (!isSomebody(a) || !isSomebody(b) || a == b) {
            return NO_NUMBER;
        }
        Plan all = planNow();
        if (!all.hasEnds()) {
            return NO_NUMBER;
        }
        return ahead ? all.aheadEnd(a, b, greatest) : all.bothEnd(a, b, greatest);
    }

    public int price(int road) {
        if (!isRoad(road)) {
            return NONE;
        }
        otherPlan.take(road, CLOSED);
        int everybody = net.everybody();
        int without = everybody & ~net.pairOf(road);
        int missing = otherPlan.mostOf(everybody) - otherPlan.mostOf(without);
        return Math.max(0, missing - net.gainWith(road, 0));
    }

    public int ways() {
        return planNow().countWays(counts);
    }

    // ---- deals by hand

    public int deal(int road, int first) {
        if (!isRoad(road) || first < -MOST_MONEY || first > MOST_MONEY || !view.open[road]) {
            return NONE;
        }
        return deals.tell(net, road, first) ? deals.count : NONE;
    }

    public int undeal(int road) {
        return isRoad(road) && deals.drop(road) ? deals.count : NONE;
    }

    public int dealRow() {
        Plan all = planNow();
        deals.clear();
        for (int k = 0; k < all.rowLength; k++) {
            int road = all.row[k];
            deals.tell(net, road, net.alone[net.first[road]] + all.gain[road] / 2);
        }
        return deals.count;
    }

    public int share(int who) {
        return isSomebody(who) ? dealsNow().share[who] : NO_NUMBER;
    }

    public int money(int who) {
        return isSomebody(who) ? dealsNow().moneyOf(who) : NO_NUMBER;
    }

    public int other(int who, boolean to) {
        if (!isSomebody(who)) {
            return NO_NUMBER;
        }
        return to ? dealsNow().turnsTo(who) : dealsNow().elseOf(who);
    }

    public int chain(int who, int k) {
        return isSomebody(who) && k >= 0 ? dealsNow().chainOf(who, k) : NONE;
    }

    public int breaks() {
        int lone = dealsNow().firstLone();
        return lone != NONE ? 100 + lone : deals.firstShort(0);
    }

    public int away() {
        return dealsNow().leastAway(planNow());
    }

    public int uneven() {
        return dealsNow().firstUneven();
    }

    public int haggle(int rounds) {
        if (rounds < 1 || rounds > MOST_ROUNDS) {
            return NONE;
        }
        int gone = dealsNow().turnRounds(rounds);
        outcome = deals.outcome;
        return outcome == NEITHER ? -2 - gone : gone;
    }

    public int ended() {
        return outcome;
    }

    public int gift() {
        return dealsNow().twiceGift(matching);
    }

    public int surely() {
        if (dealsNow().firstLone() != NONE) {
            return 0;
        }
        if (deals.firstShort(1) == NONE) {
            return 2;
        }
        return deals.firstShort(-1) == NONE ? 1 : 0;
    }

    // ---- images

    public int image() {
        return image.write(net, today, deals);
    }

    public int octet(int k) {
        return image.bytes.at(k);
    }

    public boolean on() {
        boolean taken = image.read(tape, net);
        tape.cut(0);
        if (!taken) {
            return false;
        }
        today = image.day;
        deals.become(image.told, image.first);
        lookAgain();
        return true;
    }

    private boolean isSomebody(int who) {
        return who >= 0 && who < net.people;
    }

    private boolean isRoad(int road) {
        return road >= 0 && road < net.roads;
    }

    private void lookAgain() {
        view.look(net, acts, known == NONE ? acts.count : known, today);
        planStale = true;
    }

    private Plan planNow() {
        if (planStale) {
            plan.take(NONE, CLOSED);
            planStale = false;
        }
        return plan;
    }

    private Deals dealsNow() {
        deals.settle();
        return deals;
    }

    private static int movedBetween(Plan now, Plan then) {
        int set = 0;
        for (int who = 0; who < now.net.people; who++) {
            if (now.endOf(who, false) != then.endOf(who, false)
                    || now.endOf(who, true) != then.endOf(who, true)) {
                set |= 1 << who;
            }
        }
        return set;
    }

    /** A row of bytes up to a limit. */
    private static final class Bytes {
        private final byte[] row;
        private int length;

        Bytes(int limit) {
            row = new byte[Math.max(0, limit)];
        }

        int size() {
            return length;
        }

        boolean hasRoom(int more) {
            return length + more <= row.length;
        }

        int at(int k) {
            return k >= 0 && k < length ? row[k] & 255 : NONE;
        }

        void put(int value) {
            if (length < row.length) {
                row[length] = (byte) value;
                length++;
            }
        }

        void putNumber(int value) {
            putTwo(value >> 16);
            putTwo(value);
        }

        void putTwo(int value) {
            put(value >> 8);
            put(value);
        }

        boolean cut(int n) {
            if (n < 0 || n > length) {
                return false;
            }
            length = n;
            return true;
        }

        int twoAt(int k) {
            return (at(k) << 8) + at(k + 1);
        }

        int numberAt(int k) {
            return (twoAt(k) << 16) + twoAt(k + 2);
        }

        int checkOf(int n) {
            int check = 1;
            for (int k = 0; k < n; k++) {
                check = (31 * check + at(k)) % 65521;
            }
            return check;
        }
    }

    /** The words, numbers and signs of a text in their order, the end of the text as the last. */
    private static final class Scanner {
        private final Bytes text;
        private final int[] kinds = new int[MOST_BYTES + 1];
        private final int[] starts = new int[MOST_BYTES + 1];
        private final int[] values = new int[MOST_BYTES + 1];
        private int count;
        private int kind;
        private int start;
        private int value;
        private int behind;

        Scanner(Bytes text) {
            this.text = text;
        }

        /** A misfit ends it, too: nobody reads past one. */
        void scan() {
            count = 0;
            kind = TEXT_END;
            behind = 0;
            for (int n = 0; n <= MOST_BYTES; n++) {
                takeNext();
                kinds[n] = kind;
                starts[n] = start;
                values[n] = value;
                count = n + 1;
                if (kind < 0) {
                    break;
                }
            }
        }

        int kindAt(int k) {
            return k >= 0 && k < count ? kinds[k] : TEXT_END;
        }

        int startAt(int k) {
            return k >= 0 && k < count ? starts[k] : NONE;
        }

        int valueAt(int k) {
            return k >= 0 && k < count ? values[k] : 0;
        }

        private void takeNext() {
            boolean afterLong = isLong(kind);
            int before = behind;
            start = behind;
            while (start < text.size() && isBlank(text.at(start))) {
                start++;
            }
            int sign = text.at(start);
            boolean isLongNext = isLetter(sign) || isDigit(sign);
            if (sign == NONE) {
                kind = TEXT_END;
            } else if (afterLong && isLongNext && start == before) {
                // Looked at ahead of the length: the missing blank stands ahead of what is too long.
                kind = MISFIT;
            } else if (isLetter(sign)) {
                takeWord();
            } else if (isLongNext) {
                takeNumber();
            } else {
                kind = sign;
                behind = start + 1;
            }
        }

        private void takeWord() {
            value = 0;
            behind = start;
            for (int k = 0; k < MOST_LETTERS && isLetter(text.at(behind)); k++) {
                value = packed(value, text.at(behind));
                behind++;
            }
            kind = kindOfWord(value);
            misfitIf(isLetter(text.at(behind)));
        }

        private void takeNumber() {
            value = 0;
            behind = start;
            for (int k = 0; k < MOST_DIGITS && isDigit(text.at(behind)); k++) {
                value = 10 * value + text.at(behind) - '0';
                behind++;
            }
            kind = NUMBER;
            misfitIf(isDigit(text.at(behind)));
        }

        /** What is too long is at fault at its first byte too many, whatever may stand there. */
        private void misfitIf(boolean tooLong) {
            if (tooLong) {
                kind = MISFIT;
                start = behind;
            }
        }

        private static int kindOfWord(int word) {
            int own = 0;
            int kind = WHO;
            for (int k = 0; k < OWN_WORDS.length(); k++) {
                char sign = OWN_WORDS.charAt(k);
                if (sign != ' ') {
                    own = packed(own, sign);
                } else if (own == word) {
                    return kind;
                } else {
                    own = 0;
                    kind++;
                }
            }
            return NAME;
        }

        /** Six letters of five bits each have room in one number. */
        private static int packed(int word, int letter) {
            return word * 32 + letter - 'a' + 1;
        }

        private static boolean isLong(int kind) {
            return kind >= WHO;
        }

        private static boolean isBlank(int sign) {
            return sign == 10 || sign == 32;
        }

        private static boolean isLetter(int sign) {
            return sign >= 'a' && sign <= 'z';
        }

        private static boolean isDigit(int sign) {
            return sign >= '0' && sign <= '9';
        }
    }

    /** Reads a text from the tape into a net of its own, up to the first fault. */
    private static final class Reader {
        private static final int MOST_OPEN = 8;
        private static final int MISPLACED = 1;
        private static final int GIVEN = 2;
        private static final int UNKNOWN = 3;
        private static final int TOO_MANY = 5;

        private final Scanner scanner;
        private Net net = new Net();
        private int at;
        private int kind;
        private int one;
        private int another;
        int fault;
        int place = NONE;

        Reader(Bytes tape) {
            scanner = new Scanner(tape);
        }

        /** Hands out the net that was read; the old one is written over by the next text. */
        Net exchange(Net old) {
            Net fresh = net;
            net = old;
            return fresh;
        }

        boolean read() {
            net.clear();
            fault = 0;
            place = NONE;
            scanner.scan();
            at = 0;
            kind = scanner.kindAt(0);
            for (int n = 0; n < MOST_BYTES && kind != TEXT_END; n++) {
                if (isTooMany()) {
                    return fail(TOO_MANY);
                }
                boolean right = false;
                switch (kind) {
                    case WHO: right = whoLives(); break;
                    case ROAD: right = roadGoes(); break;
                    case TASTE: right = tasteIs(); break;
                    case DOUBT: right = doubtIs(); break;
                    default: return fail(MISPLACED);
                }
                if (!right || !skip(';')) {
                    return false;
                }
                net.statements++;
            }
            return true;
        }

        private boolean isTooMany() {
            switch (kind) {
                case WHO: return net.people >= MOST_PEOPLE;
                case ROAD: return net.roads >= MOST_ROADS;
                case TASTE: return net.tastes >= MOST_TASTES;
                case DOUBT: return net.doubts >= MOST_DOUBTS;
                default: return false;
            }
        }

        private boolean whoLives() {
            step();
            if (kind != NAME) {
                return fail(MISPLACED);
            }
            int name = scanner.valueAt(at);
            if (net.whoIs(name) != NONE) {
                return fail(GIVEN);
            }
            step();
            if (!skip(ALONE)) {
                return false;
            }
            int alone = number();
            if (alone == NONE) {
                return false;
            }
            net.addWho(name, alone);
            return true;
        }

        private boolean roadGoes() {
            if (!twoNames(ROAD) || !skip(WORTH)) {
                return false;
            }
            int sumFrom = net.codeLength;
            net.beginRoad(one, another);
            if (!sum(0)) {
                return false;
            }
            int testFrom = net.codeLength;
            if (kind == WHEN) {
                step();
                if (!test(0)) {
                    return false;
                }
            }
            net.endRoad(sumFrom, testFrom);
            return true;
        }

        private boolean tasteIs() {
            if (!twoNames(TASTE)) {
                return false;
            }
            boolean less = kind == LESS;
            if (less) {
                step();
            }
            int taste = number();
            if (taste == NONE) {
                return false;
            }
            net.addTaste(one, another, less ? -taste : taste);
            return true;
        }

        private boolean doubtIs() {
            if (!twoNames(DOUBT)) {
                return false;
            }
            int doubt = number();
            if (doubt == NONE) {
                return false;
            }
            net.addDoubt(one, another, doubt);
            return true;
        }

        /** The two of a road, a taste or a doubt; each has a fault of its own at the second one. */
        private boolean twoNames(int statement) {
            step();
            one = somebody();
            if (one == NONE) {
                return false;
            }
            step();
            another = somebody();
            if (another == NONE) {
                return false;
            }
            if (one == another) {
                return fail(UNKNOWN);
            }
            boolean haveRoad = net.roadOf[one][another] != NONE;
            boolean tasteTold = net.tasteTold[one * MOST_PEOPLE + another];
            if (statement == ROAD && haveRoad || statement == TASTE && tasteTold) {
                return fail(GIVEN);
            }
            if (statement == DOUBT && !haveRoad) {
                return fail(UNKNOWN);
            }
            step();
            return true;
        }

        /** Whose name stands here; NONE, with a fault, if it is nobody's. */
        private int somebody() {
            if (kind != NAME) {
                fail(MISPLACED);
                return NONE;
            }
            int who = net.whoIs(scanner.valueAt(at));
            if (who == NONE) {
                fail(UNKNOWN);
            }
            return who;
        }

        private int number() {
            if (kind != NUMBER) {
                fail(MISPLACED);
                return NONE;
            }
            int value = scanner.valueAt(at);
            step();
            return value;
        }

        private boolean test(int open) {
            if (!both(open)) {
                return false;
            }
            for (int n = 0; n < MOST_BYTES && kind == OR; n++) {
                step();
                if (!both(open)) {
                    return false;
                }
                net.emit(-OR);
            }
            return true;
        }

        private boolean both(int open) {
            if (!fact(open)) {
                return false;
            }
            for (int n = 0; n < MOST_BYTES && kind == AND; n++) {
                step();
                if (!fact(open)) {
                    return false;
                }
                net.emit(-AND);
            }
            return true;
        }

        private boolean fact(int open) {
            boolean turned = false;
            for (int n = 0; n < MOST_BYTES && kind == NOT; n++) {
                turned = !turned;
                step();
            }
            if (kind == '[') {
                if (!opens('[', open) || !test(open + 1) || !skip(']')) {
                    return false;
                }
            } else if (kind == ALL) {
                net.emit(1);
                step();
            } else {
                if (!sum(open)) {
                    return false;
                }
                int sign = kind;
                if (sign != '<' && sign != '>' && sign != '=') {
                    return fail(MISPLACED);
                }
                step();
                if (!sum(open)) {
                    return false;
                }
                net.emit(-sign);
            }
            if (turned) {
                net.emit(-NOT);
            }
            return true;
        }

        private boolean sum(int open) {
            if (!product(open)) {
                return false;
            }
            for (int n = 0; n < MOST_BYTES && (kind == '+' || kind == '-'); n++) {
                int sign = kind;
                step();
                if (!product(open)) {
                    return false;
                }
                net.emit(-sign);
            }
            return true;
        }

        private boolean product(int open) {
            if (!part(open)) {
                return false;
            }
            for (int n = 0; n < MOST_BYTES
                    && (kind == '*' || kind == '/' || kind == '%'); n++) {
                int sign = kind;
                step();
                if (!part(open)) {
                    return false;
                }
                net.emit(-sign);
            }
            return true;
        }

        private boolean part(int open) {
            int part = kind;
            switch (part) {
                case NUMBER:
                    net.emit(scanner.valueAt(at));
                    step();
                    return true;
                case DAY:
                case WEEK:
                case WDAY:
                    net.emit(-part);
                    step();
                    return true;
                case ALONE:
                    step();
                    int who = somebody();
                    if (who == NONE) {
                        return false;
                    }
                    net.emit(net.alone[who]);
                    step();
                    return true;
                case '(':
                    return opens('(', open) && sum(open + 1) && skip(')');
                case MIN:
                case MAX:
                    step();
                    if (!opens('(', open) || !sum(open + 1) || !skip(',') || !sum(open + 1) || !skip(')')) {
                        return false;
                    }
                    net.emit(-part);
                    return true;
                default:
                    return fail(MISPLACED);
            }
        }

        private boolean opens(int sign, int open) {
            if (kind != sign) {
                return fail(MISPLACED);
            }
            if (open >= MOST_OPEN) {
                return fail(TOO_MANY);
            }
            step();
            return true;
        }

        private boolean skip(int wanted) {
            if (kind != wanted) {
                return fail(MISPLACED);
            }
            step();
            return true;
        }

        private void step() {
            at++;
            kind = scanner.kindAt(at);
        }

        /** The text is read no further than the fault, which is where the reader stands. */
        private boolean fail(int why) {
            fault = why;
            place = scanner.startAt(at);
            return false;
        }
    }

    /** What a text tells: who there are, the roads with code for their sums and tests, tastes, doubts. */
    private static final class Net {
        private static final int STACK = 64;
        private static final int BILLION = 1000000000;

        final int[] names = new int[MOST_PEOPLE];
        final int[] alone = new int[MOST_PEOPLE];
        final int[] first = new int[MOST_ROADS];
        final int[] second = new int[MOST_ROADS];
        final int[] doubt = new int[MOST_ROADS];
        final int[] sumFrom = new int[MOST_ROADS];
        final int[] testFrom = new int[MOST_ROADS];
        final int[] testTo = new int[MOST_ROADS];
        final int[][] roadOf = new int[MOST_PEOPLE][MOST_PEOPLE];
        final int[][] taste = new int[MOST_PEOPLE][MOST_PEOPLE];
        final boolean[] tasteTold = new boolean[MOST_PEOPLE * MOST_PEOPLE];
        // Behind one another as they are reckoned: a number from 0 on, or a kind of a text below 0.
        private final int[] code = new int[MOST_BYTES];
        private final int[] stack = new int[STACK];
        private int height;
        int codeLength;
        int people;
        int roads;
        int tastes;
        int doubts;
        int statements;

        Net() {
            for (int who = 0; who < MOST_PEOPLE; who++) {
                Arrays.fill(roadOf[who], NONE);
            }
        }

        void clear() {
            people = 0;
            roads = 0;
            tastes = 0;
            doubts = 0;
            statements = 0;
            codeLength = 0;
            Arrays.fill(doubt, 0);
            for (int who = 0; who < MOST_PEOPLE; who++) {
                Arrays.fill(roadOf[who], NONE);
                Arrays.fill(taste[who], 0);
            }
            for (int k = 0; k < tasteTold.length; k++) {
                tasteTold[k] = false;
            }
        }

        int everybody() {
            return (1 << people) - 1;
        }

        int pairOf(int road) {
            return 1 << first[road] | 1 << second[road];
        }

        int whoIs(int name) {
            for (int who = 0; who < people; who++) {
                if (names[who] == name) {
                    return who;
                }
            }
            return NONE;
        }

        int letterOf(int who, int k) {
            int length = 0;
            while (length < MOST_LETTERS && names[who] >> 5 * length != 0) {
                length++;
            }
            return k >= 0 && k < length ? (names[who] >> 5 * (length - 1 - k) & 31) + 'a' - 1 : NONE;
        }

        void addWho(int name, int has) {
            if (people < MOST_PEOPLE) {
                names[people] = name;
                alone[people] = has;
                people++;
            }
        }

        void beginRoad(int one, int another) {
            if (roads < MOST_ROADS) {
                first[roads] = one;
                second[roads] = another;
            }
        }

        void endRoad(int sumAt, int testAt) {
            if (roads < MOST_ROADS) {
                sumFrom[roads] = sumAt;
                testFrom[roads] = testAt;
                testTo[roads] = codeLength;
                roadOf[first[roads]][second[roads]] = roads;
                roadOf[second[roads]][first[roads]] = roads;
                roads++;
            }
        }

        void addTaste(int one, int another, int value) {
            taste[one][another] = value;
            tasteTold[one * MOST_PEOPLE + another] = true;
            tastes++;
        }

        void addDoubt(int one, int another, int value) {
            int road = roadOf[one][another];
            if (road != NONE) {
                doubt[road] = value;
                doubts++;
            }
        }

        void emit(int step) {
            if (codeLength < MOST_BYTES) {
                code[codeLength] = step;
                codeLength++;
            }
        }

        int madeWith(int road, int worth) {
            int one = first[road];
            int another = second[road];
            return worth + taste[one][another] + taste[another][one];
        }

        int gainWith(int road, int worth) {
            return madeWith(road, worth) - alone[first[road]] - alone[second[road]];
        }

        /** What the text tells of a road's worth on a day; CLOSED, if its test does not hold. */
        int worthOn(int road, int day) {
            boolean tested = testFrom[road] < testTo[road];
            if (tested && reckoned(testFrom[road], testTo[road], day) == 0) {
                return CLOSED;
            }
            return Math.min(Math.max(reckoned(sumFrom[road], testFrom[road], day), 0), MOST_WORTH);
        }

        private int reckoned(int from, int to, int day) {
            height = 0;
            for (int k = from; k < to && k < MOST_BYTES; k++) {
                step(code[k], day);
            }
            return pop();
        }

        private void step(int step, int day) {
            switch (-step) {
                case DAY: push(day); break;
                case WEEK: push(day / 7); break;
                case WDAY: push(day % 7); break;
                case NOT: push(1 - pop()); break;
                default:
                    if (step >= 0) {
                        push(step);
                    } else {
                        int right = pop();
                        push(joined(-step, pop(), right));
                    }
            }
        }

        private void push(int value) {
            if (height < STACK) {
                stack[height] = value;
                height++;
            }
        }

        private int pop() {
            if (height > 0) {
                height--;
                return stack[height];
            }
            return 0;
        }

        private static int joined(int sign, int left, int right) {
            switch (sign) {
                case '+': return capped((long) left + right);
                case '-': return capped((long) left - right);
                case '*': return capped((long) left * right);
                case '/': return right == 0 ? 0 : Math.floorDiv(left, right);
                case '%': return right == 0 ? 0 : Math.floorMod(left, right);
                case '<': return left < right ? 1 : 0;
                case '>': return left > right ? 1 : 0;
                case '=': return left == right ? 1 : 0;
                case MIN: return Math.min(left, right);
                case MAX: return Math.max(left, right);
                case AND: return left & right;
                default: return left | right;
            }
        }

        private static int capped(long value) {
            return (int) (value > BILLION ? BILLION : value < -BILLION ? -BILLION : value);
        }
    }

    /** The acts in their order, and which of them count as known at one of them. */
    private static final class Acts {
        // The road of an act; NONE, if it tells that another one is void.
        private final int[] roads = new int[MOST_ACTS];
        private final int[] worths = new int[MOST_ACTS];
        // The number of the act that tells that this one is void; 0 without.
        private final int[] voidFrom = new int[MOST_ACTS];
        int count;

        void clear() {
            count = 0;
        }

        int add(int road, int worth) {
            if (count >= MOST_ACTS) {
                return NONE;
            }
            roads[count] = road;
            worths[count] = worth;
            voidFrom[count] = 0;
            count++;
            return count;
        }

        int annulled(int act) {
            if (act < 1 || act > count || roads[act - 1] == NONE || voidFrom[act - 1] != 0) {
                return NONE;
            }
            int teller = add(NONE, 0);
            if (teller != NONE) {
                voidFrom[act - 1] = teller;
            }
            return teller;
        }

        int knownWorth(int road, int act) {
            for (int k = Math.min(act, count) - 1; k >= 0; k--) {
                boolean isVoid = voidFrom[k] != 0 && voidFrom[k] <= act;
                if (roads[k] == road && !isVoid) {
                    return worths[k];
                }
            }
            return BY_TEXT;
        }
    }

    /** The roads on a day, as known at an act. */
    private static final class View {
        final boolean[] open = new boolean[MOST_ROADS];
        final int[] made = new int[MOST_ROADS];
        Net net;

        View(Net net) {
            this.net = net;
        }

        void look(Net told, Acts acts, int act, int day) {
            net = told;
            for (int road = 0; road < net.roads; road++) {
                int worth = acts.knownWorth(road, act);
                if (worth == BY_TEXT) {
                    worth = net.worthOn(road, day);
                }
                open[road] = worth != CLOSED;
                made[road] = worth == CLOSED ? 0 : net.madeWith(road, worth);
            }
        }

        int gainOf(int road) {
            return made[road] - net.alone[net.first[road]] - net.alone[net.second[road]];
        }
    }

    /** Twice the greatest sum with halves: each one is taken twice, and all is matched two-sidedly. */
    private static final class Matching {
        private static final int SIZE = MOST_PEOPLE + 1;

        private final int[][] weight = new int[SIZE][SIZE];
        private final int[] rowPrice = new int[SIZE];
        private final int[] columnPrice = new int[SIZE];
        private final int[] rowAt = new int[SIZE];
        private final int[] before = new int[SIZE];
        private final int[] slack = new int[SIZE];
        private final boolean[] reached = new boolean[SIZE];
        private int size;

        void begin(int people) {
            size = Math.min(people, MOST_PEOPLE);
            for (int row = 0; row <= size; row++) {
                Arrays.fill(weight[row], 0);
            }
        }

        void weigh(int one, int another, int value) {
            weight[one + 1][another + 1] = value;
            weight[another + 1][one + 1] = value;
        }

        int greatest() {
            Arrays.fill(rowPrice, 0);
            Arrays.fill(columnPrice, 0);
            Arrays.fill(rowAt, 0);
            for (int row = 1; row <= size; row++) {
                place(row);
            }
            int sum = 0;
            for (int column = 1; column <= size; column++) {
                sum += weight[rowAt[column]][column];
            }
            return sum;
        }

        /** Column 0 stands for "not placed yet": a path from it to a free column places one row more. */
        private void place(int row) {
            rowAt[0] = row;
            for (int column = 0; column <= size; column++) {
                slack[column] = FAR;
                reached[column] = false;
            }
            int column = 0;
            for (int step = 0; step <= size; step++) {
                column = nextColumn(column);
                if (rowAt[column] == 0) {
                    break;
                }
            }
            for (int step = 0; step <= size && column != 0; step++) {
                rowAt[column] = rowAt[before[column]];
                column = before[column];
            }
        }

        private int nextColumn(int from) {
            reached[from] = true;
            int row = rowAt[from];
            int next = 0;
            int least = FAR;
            for (int column = 1; column <= size; column++) {
                if (!reached[column]) {
                    int loss = -weight[row][column] - rowPrice[row] - columnPrice[column];
                    if (loss < slack[column]) {
                        slack[column] = loss;
                        before[column] = from;
                    }
                    if (slack[column] < least) {
                        least = slack[column];
                        next = column;
                    }
                }
            }
            shiftPrices(least);
            return next;
        }

        private void shiftPrices(int by) {
            for (int column = 0; column <= size; column++) {
                if (reached[column]) {
                    rowPrice[rowAt[column]] += by;
                    columnPrice[column] -= by;
                } else {
                    slack[column] -= by;
                }
            }
        }
    }

    /**
     * Bounds of what each has above alone. Each one stands twice, as it is (2 i) and with its sign
     * turned (2 i + 1); bound[u][v] is the most that u is above v.
     */
    private static final class Bounds {
        private final int[][] bound = new int[2 * MOST_PEOPLE][2 * MOST_PEOPLE];
        private int size;

        void begin(int people) {
            size = Math.min(2 * people, 2 * MOST_PEOPLE);
            for (int u = 0; u < size; u++) {
                Arrays.fill(bound[u], FAR);
                bound[u][u] = 0;
            }
            for (int who = 0; who < people; who++) {
                bound[2 * who + 1][2 * who] = 0;
            }
        }

        void nothingFor(int who) {
            bound[2 * who][2 * who + 1] = 0;
        }

        void atLeast(int one, int another, int sum) {
            bound[2 * one + 1][2 * another] = -sum;
            bound[2 * another + 1][2 * one] = -sum;
        }

        void atMost(int one, int another, int sum) {
            bound[2 * one][2 * another + 1] = sum;
            bound[2 * another][2 * one + 1] = sum;
        }

        /** Only for bounds that can be kept: without, numbers would grow without end. */
        void close() {
            for (int by = 0; by < size; by++) {
                for (int u = 0; u < size; u++) {
                    int head = bound[u][by];
                    for (int v = 0; head != FAR && v < size; v++) {
                        int tail = bound[by][v];
                        if (tail != FAR && head + tail < bound[u][v]) {
                            bound[u][v] = head + tail;
                        }
                    }
                }
            }
        }

        int twiceMost(int who) {
            return bound[2 * who][2 * who + 1];
        }

        int twiceLeast(int who) {
            return -bound[2 * who + 1][2 * who];
        }

        int twiceMostSum(int one, int another) {
            return tighter(bound[2 * one][2 * another + 1], twiceMost(one) + twiceMost(another));
        }

        int twiceLeastSum(int one, int another) {
            return -tighter(bound[2 * one + 1][2 * another], -twiceLeast(one) - twiceLeast(another));
        }

        int twiceMostAhead(int one, int another) {
            return tighter(bound[2 * one][2 * another], twiceMost(one) - twiceLeast(another));
        }

        private static int tighter(int once, int twice) {
            return once == FAR ? twice : Math.min(2 * once, twice);
        }
    }

    /** What all can make on the roads of a view, one of them perhaps with another worth. */
    private static final class Plan {
        private final View view;
        private final Matching matching;
        private final Bounds bounds = new Bounds();
        private final int[] best = new int[MOST_SETS];
        final int[] gain = new int[MOST_ROADS];
        final int[] row = new int[MOST_PEOPLE / 2];
        int rowLength;
        Net net;
        private int twice;
        private boolean twiceStale;
        private boolean boundsStale;

        Plan(View view, Matching matching) {
            this.view = view;
            this.matching = matching;
            net = view.net;
        }

        /** With the worth of one road changed; none is NONE. */
        void take(int changed, int worth) {
            net = view.net;
            for (int road = 0; road < net.roads; road++) {
                int told = view.open[road] ? view.gainOf(road) : 0;
                if (road == changed) {
                    told = worth == CLOSED ? 0 : net.gainWith(road, worth);
                }
                gain[road] = Math.max(0, told);
            }
            for (int who = 0; who < net.people; who++) {
                fillBest(who);
            }
            fillRow();
            twiceStale = true;
            boundsStale = true;
        }

        int mostOf(int set) {
            return set >= 0 && set < MOST_SETS ? best[set] : 0;
        }

        private int gainOfTwo(int one, int another) {
            int road = net.roadOf[one][another];
            return road == NONE ? 0 : gain[road];
        }

        /** The sets whose last one this is: it stays alone, or goes with one ahead of it. */
        private void fillBest(int last) {
            int bit = 1 << last;
            System.arraycopy(best, 0, best, bit, bit);
            for (int one = 0; one < last; one++) {
                int more = gainOfTwo(one, last);
                int pair = bit | 1 << one;
                for (int set = pair; more > 0 && set < 2 * bit; set++) {
                    if ((set & pair) == pair) {
                        best[set] = Math.max(best[set], best[set - pair] + more);
                    }
                }
            }
        }

        private void fillRow() {
            rowLength = 0;
            int left = net.everybody();
            for (int road = 0; road < net.roads; road++) {
                int pair = net.pairOf(road);
                boolean fits = gain[road] > 0 && (left & pair) == pair;
                if (fits && rowLength < row.length && best[left - pair] + gain[road] == best[left]) {
                    row[rowLength] = road;
                    rowLength++;
                    left -= pair;
                }
            }
        }

        int countWays(int[] counts) {
            counts[0] = 1;
            for (int last = 0; last < net.people; last++) {
                int bit = 1 << last;
                for (int set = bit; set < 2 * bit; set++) {
                    counts[set] = best[set - bit] == best[set] ? counts[set - bit] : 0;
                }
                for (int one = 0; one < last; one++) {
                    addWays(counts, one, last);
                }
            }
            return counts[net.everybody()];
        }

        private void addWays(int[] counts, int one, int last) {
            int more = gainOfTwo(one, last);
            int pair = 1 << last | 1 << one;
            for (int set = pair; more > 0 && set < 2 << last; set++) {
                if ((set & pair) == pair && best[set - pair] + more == best[set]) {
                    counts[set] = Math.min(FAR, counts[set] + counts[set - pair]);
                }
            }
        }

        int twiceWithHalves() {
            if (twiceStale) {
                matching.begin(net.people);
                for (int road = 0; road < net.roads; road++) {
                    matching.weigh(net.first[road], net.second[road], gain[road]);
                }
                twice = matching.greatest();
                twiceStale = false;
            }
            return twice;
        }

        boolean hasEnds() {
            return 2 * best[net.everybody()] == twiceWithHalves();
        }

        int endOf(int who, boolean greatest) {
            freshBounds();
            int above = greatest ? bounds.twiceMost(who) : bounds.twiceLeast(who);
            return 2 * net.alone[who] + above;
        }

        int bothEnd(int one, int another, boolean greatest) {
            freshBounds();
            int above = greatest ? bounds.twiceMostSum(one, another) : bounds.twiceLeastSum(one, another);
            return 2 * (net.alone[one] + net.alone[another]) + above;
        }

        int aheadEnd(int one, int another, boolean greatest) {
            freshBounds();
            int above = greatest ? bounds.twiceMostAhead(one, another) : -bounds.twiceMostAhead(another, one);
            return 2 * (net.alone[one] - net.alone[another]) + above;
        }

        private void freshBounds() {
            if (!boundsStale) {
                return;
            }
            bounds.begin(net.people);
            int left = net.everybody();
            for (int road = 0; road < net.roads; road++) {
                if (gain[road] > 0) {
                    bounds.atLeast(net.first[road], net.second[road], gain[road]);
                }
            }
            for (int k = 0; k < rowLength; k++) {
                bounds.atMost(net.first[row[k]], net.second[row[k]], gain[row[k]]);
                left -= net.pairOf(row[k]);
            }
            for (int who = 0; who < net.people; who++) {
                if ((left >> who & 1) != 0) {
                    bounds.nothingFor(who);
                }
            }
            bounds.close();
            boundsStale = false;
        }
    }

    /** The deals told by hand, and what comes of them in a view. */
    private static final class Deals {
        final boolean[] told = new boolean[MOST_ROADS];
        final int[] first = new int[MOST_ROADS];
        int count;
        // As settled in the view: the road of each one's deal (NONE without), and what each has.
        private final int[] dealOf = new int[MOST_PEOPLE];
        final int[] share = new int[MOST_PEOPLE];
        private final View view;
        private Net net;
        // The roads of the deals that are open, and what their first ones had behind each round.
        private final int[] turned = new int[MOST_DEALS];
        private int turns;
        private final int[] past = new int[(MOST_ROUNDS + 1) * MOST_DEALS];
        int outcome;

        Deals(View view) {
            this.view = view;
            net = view.net;
        }

        void clear() {
            for (int road = 0; road < MOST_ROADS; road++) {
                told[road] = false;
            }
            count = 0;
        }

        void become(boolean[] otherTold, int[] otherFirst) {
            clear();
            for (int road = 0; road < MOST_ROADS; road++) {
                if (otherTold[road]) {
                    put(road, otherFirst[road]);
                }
            }
        }

        boolean tell(Net where, int road, int has) {
            int taken = 0;
            for (int k = 0; k < where.roads; k++) {
                if (told[k] && k != road) {
                    taken |= where.pairOf(k);
                }
            }
            if ((taken & where.pairOf(road)) != 0) {
                return false;
            }
            put(road, has);
            return true;
        }

        private void put(int road, int has) {
            if (!told[road]) {
                told[road] = true;
                count++;
            }
            first[road] = has;
        }

        boolean drop(int road) {
            if (!told[road]) {
                return false;
            }
            told[road] = false;
            count--;
            return true;
        }

        void settle() {
            net = view.net;
            turns = 0;
            for (int who = 0; who < net.people; who++) {
                dealOf[who] = NONE;
                share[who] = net.alone[who];
            }
            for (int road = 0; road < net.roads; road++) {
                if (told[road] && view.open[road] && turns < MOST_DEALS) {
                    dealOf[net.first[road]] = road;
                    dealOf[net.second[road]] = road;
                    part(road, first[road]);
                    turned[turns] = road;
                    turns++;
                }
            }
        }

        private void part(int road, int has) {
            share[net.first[road]] = has;
            share[net.second[road]] = view.made[road] - has;
        }

        int moneyOf(int who) {
            int road = dealOf[who];
            if (road == NONE) {
                return share[who];
            }
            int partner = net.first[road] + net.second[road] - who;
            return share[who] - net.taste[who][partner];
        }

        /** What one could have with another one on their road; NO_NUMBER without such a road. */
        private int offer(int who, int from) {
            int road = net.roadOf[who][from];
            if (road == NONE || road == dealOf[who] || !view.open[road]) {
                return NO_NUMBER;
            }
            return view.made[road] - share[from];
        }

        int elseOf(int who) {
            int greatest = net.alone[who];
            for (int from = 0; from < net.people; from++) {
                greatest = Math.max(greatest, offer(who, from));
            }
            return greatest;
        }

        int turnsTo(int who) {
            int to = NONE;
            int greatest = net.alone[who];
            for (int from = 0; from < net.people; from++) {
                int has = offer(who, from);
                if (has > greatest) {
                    greatest = has;
                    to = from;
                }
            }
            return to;
        }

        int chainOf(int who, int k) {
            int inIt = 0;
            int at = who;
            for (int step = 0; step < k && step < MOST_PEOPLE; step++) {
                inIt |= 1 << at;
                at = turnsTo(at);
                if (at == NONE || (inIt >> at & 1) != 0) {
                    return NONE;
                }
            }
            return k < net.people ? at : NONE;
        }

        int firstLone() {
            for (int who = 0; who < net.people; who++) {
                if (share[who] < net.alone[who]) {
                    return who;
                }
            }
            return NONE;
        }

        /** The first open road that is no deal, whose two have less than is made and so often its doubt. */
        int firstShort(int doubts) {
            for (int road = 0; road < net.roads; road++) {
                int one = net.first[road];
                int made = view.made[road] + doubts * net.doubt[road];
                boolean isDeal = dealOf[one] == road;
                if (view.open[road] && !isDeal && share[one] + share[net.second[road]] < made) {
                    return road;
                }
            }
            return NONE;
        }

        int leastAway(Plan plan) {
            for (int set = 1; set <= net.everybody(); set++) {
                int lack = plan.mostOf(set);
                for (int who = 0; who < net.people; who++) {
                    if ((set >> who & 1) != 0) {
                        lack += net.alone[who] - share[who];
                    }
                }
                if (lack > 0) {
                    return set;
                }
            }
            return 0;
        }

        /** What the first one of a deal has, if it is even. */
        private int evenFirst(int road) {
            int firstElse = elseOf(net.first[road]);
            int left = view.made[road] - firstElse - elseOf(net.second[road]);
            return firstElse + Math.floorDiv(left, 2);
        }

        int firstUneven() {
            for (int k = 0; k < turns; k++) {
                if (first[turned[k]] != evenFirst(turned[k])) {
                    return turned[k];
                }
            }
            return NONE;
        }

        int turnRounds(int rounds) {
            keep(0);
            for (int gone = 1; gone <= rounds && gone <= MOST_ROUNDS; gone++) {
                turnRound();
                outcome = NEITHER;
                if (isAsBehind(gone - 1)) {
                    outcome = REST;
                    return gone;
                }
                for (int round = gone - 2; round >= 0; round--) {
                    if (isAsBehind(round)) {
                        outcome = RING;
                        return gone;
                    }
                }
                keep(gone);
            }
            return rounds;
        }

        private void turnRound() {
            for (int k = 0; k < turns; k++) {
                int road = turned[k];
                int even = evenFirst(road);
                first[road] = Math.min(Math.max(even, -MOST_MONEY), MOST_MONEY);
                part(road, first[road]);
            }
        }

        private void keep(int round) {
            for (int k = 0; k < turns; k++) {
                past[round * MOST_DEALS + k] = first[turned[k]];
            }
        }

        private boolean isAsBehind(int round) {
            for (int k = 0; k < turns; k++) {
                if (past[round * MOST_DEALS + k] != first[turned[k]]) {
                    return false;
                }
            }
            return true;
        }

        int twiceGift(Matching matching) {
            int lone = 0;
            matching.begin(net.people);
            for (int who = 0; who < net.people; who++) {
                lone += withAlone(who) - share[who];
            }
            for (int road = 0; road < net.roads; road++) {
                int one = net.first[road];
                int another = net.second[road];
                int lack = view.open[road] ? view.made[road] - withAlone(one) - withAlone(another) : 0;
                matching.weigh(one, another, Math.max(0, lack));
            }
            return 2 * lone + matching.greatest();
        }

        /** Nobody may have less than alone, so this much is given in any case. */
        private int withAlone(int who) {
            return Math.max(net.alone[who], share[who]);
        }
    }

    /** The bytes that tell the day and the deals. */
    private static final class Image {
        private static final int NO_DEAL = 255;
        private static final int A_DEAL = 1;

        final Bytes bytes = new Bytes(5 + MOST_ROADS + 4 * MOST_DEALS);
        final boolean[] told = new boolean[MOST_ROADS];
        final int[] first = new int[MOST_ROADS];
        int day;

        int write(Net net, int today, Deals deals) {
            bytes.cut(0);
            bytes.put(net.roads);
            bytes.putTwo(today);
            for (int road = 0; road < net.roads; road++) {
                if (deals.told[road]) {
                    bytes.put(A_DEAL);
                    bytes.putNumber(deals.first[road]);
                } else {
                    bytes.put(NO_DEAL);
                }
            }
            bytes.putTwo(bytes.checkOf(bytes.size()));
            return bytes.size();
        }

        boolean read(Bytes tape, Net net) {
            if (tape.at(0) != net.roads || tape.size() < 5) {
                return false;
            }
            day = tape.twoAt(1);
            int behind = readDeals(tape, net);
            return day <= LAST_DAY && behind != NONE && tape.size() == behind + 2
                    && tape.twoAt(behind) == tape.checkOf(behind);
        }

        /** The place behind the deals; NONE, if they can't be. */
        private int readDeals(Bytes tape, Net net) {
            int at = 3;
            int taken = 0;
            for (int road = 0; road < MOST_ROADS; road++) {
                told[road] = road < net.roads && tape.at(at) == A_DEAL;
                if (told[road]) {
                    first[road] = tape.numberAt(at + 1);
                    boolean isFree = (taken & net.pairOf(road)) == 0;
                    if (!isFree || first[road] < -MOST_MONEY || first[road] > MOST_MONEY) {
                        return NONE;
                    }
                    taken |= net.pairOf(road);
                    at += 5;
                } else if (road < net.roads) {
                    if (tape.at(at) != NO_DEAL) {
                        return NONE;
                    }
                    at++;
                }
            }
            return at;
        }
    }
}
