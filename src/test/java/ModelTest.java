import java.util.List;

/**
 * Promises 1 to 39 together: many calls on one object, of all kinds in any order, each answer beside Model's. Most
 * arguments are at a limit or next to one. No object has more than the 512 calls of the document.
 */
public final class ModelTest {
    private static final int MOST_CALLS = 512;

    private final Due due = new Due("ModelTest");
    private RoadDeals x;
    private Model model;
    private String latest;
    private int calls;
    private int fault;
    private int place;

    public static void main(String[] args) {
        ModelTest test = new ModelTest();
        for (int n = 0; n < 2000; n++) {
            test.one();
        }
        test.due.end();
    }

    private void one() {
        x = new RoadDeals();
        model = new Model();
        calls = 0;
        fault = 0;
        place = -1;
        latest = "";
        while (calls < MOST_CALLS - 60) {
            int kind = due.next(24);
            if (kind == 0 && calls < 300 && due.next(3) == 0 || calls == 3) {
                text();
            } else if (kind == 1) {
                refusedText();
            } else if (kind == 2) {
                on();
            } else if (kind < 11) {
                change();
            } else if (kind < 15) {
                lookAtText();
            } else if (kind < 20) {
                lookAtMost();
            } else {
                lookAtDeals();
            }
        }
    }

    private void is(String call, int got, int want) {
        calls++;
        due.is(call, got, want);
    }

    private void is(String call, boolean got, boolean want) {
        is(call, got ? 1 : 0, want ? 1 : 0);
    }

    private void feed(byte[] bytes) {
        Due.feed(x, bytes);
        calls += (bytes.length + 19) / 20 + 1;
    }

    private void feed(String text) {
        Due.feed(x, text);
        calls += (text.length() + 19) / 20 + 1;
    }

    private void text() {
        latest = model.newText(due, due.next(7));
        feed(latest);
        is("text " + latest, x.text(), model.statements());
        fault = 0;
        place = -1;
    }

    private void refusedText() {
        String[] wrong = {"who a alone 5", "x", "road a a worth 1;", "who a alone 1;who a alone 2;", "who abcdefg",
            "who a alone 00000;", "taste a b 1;", "   |", "who a alone 1;doubt a"};
        String text = wrong[due.next(wrong.length)];
        Reading reading = new Reading(text);
        feed(text);
        is("text " + text, x.text(), -1);
        fault = reading.fault;
        place = reading.place;
    }

    private void on() {
        model.image();
        is("image", x.image(), model.bytes().length);
        byte[] bytes = model.bytes();
        int how = due.next(6);
        if (how == 0) {
            bytes[due.next(bytes.length)] += 1 + due.next(3);
        } else if (how == 1) {
            bytes = java.util.Arrays.copyOf(bytes, due.next(bytes.length + 2));
        } else if (how < 5) {
            StringBuilder other = new StringBuilder();
            for (int k = 0; k < bytes.length - 2; k++) {
                other.append((char) (bytes[k] & 255));
            }
            other.setCharAt(how == 4 ? 2 : due.next(other.length()), (char) due.next(256));
            bytes = Model.checked(other.toString());
        }
        feed(bytes);
        is("on", x.on(), model.on(bytes));
        is("the tape went", x.end(1), false);
    }

    /** At a limit, or next to it, or anywhere up to it. */
    private int near(int limit) {
        switch (due.next(12)) {
            case 0: return -1;
            case 1: return limit;
            case 2: return due.next(2) == 0 ? Integer.MIN_VALUE : Integer.MAX_VALUE;
            case 3: return limit + 1;
            case 4: return -2;
            default: return limit > 0 ? due.next(limit) : 0;
        }
    }

    private int someRoad() {
        return near(model.roads());
    }

    private int somebody() {
        return near(model.people());
    }

    private int someWorth() {
        int[] all = {-2, -1, -1, -3, 100001, 0, Integer.MIN_VALUE, Integer.MAX_VALUE};
        return due.next(2) == 0 ? due.next(16) : all[due.next(all.length)];
    }

    private int someFirst() {
        int[] all = {-1000001, 1000001, -1000000, 1000000, Integer.MIN_VALUE, Integer.MAX_VALUE};
        return due.next(6) > 0 ? due.next(20) - 3 : all[due.next(all.length)];
    }

    private void change() {
        int road = someRoad();
        int act = near(model.acts() + 1);
        int number;
        switch (due.next(9)) {
            case 0:
                number = near(1000);
                is("day " + number, x.day(number), model.day(number));
                break;
            case 1:
            case 2:
                number = someWorth();
                is("worth " + road + ", " + number, x.worth(road, number), model.worth(road, number));
                break;
            case 3:
                is("annul " + act, x.annul(act), model.annul(act));
                break;
            case 4:
                is("as " + act, x.as(act), model.as(act));
                break;
            case 5:
            case 6:
                number = someFirst();
                is("deal " + road + ", " + number, x.deal(road, number), model.deal(road, number));
                break;
            case 7:
                is("undeal " + road, x.undeal(road), model.undeal(road));
                break;
            default:
                changeDeals();
        }
    }

    private void changeDeals() {
        if (due.next(3) == 0) {
            is("dealRow", x.dealRow(), model.dealRow());
            return;
        }
        int rounds = due.next(2) == 0 ? 1 + due.next(4) : near(1000);
        is("haggle " + rounds, x.haggle(rounds), model.haggle(rounds));
        is("ended", x.ended(), model.ended());
    }

    private void lookAtText() {
        int what = near(8);
        is("has " + what, x.has(what), model.has(what));
        what = near(2);
        is("fault " + what, x.fault(what), what == 0 ? fault : what == 1 ? place : -1);
        int who = somebody();
        int k = near(1);
        boolean isLetter = model.isSomebody(who) && k == 0;
        is("letter " + who + ", " + k, x.letter(who, k), isLetter ? Brute.name(who) : -1);
        Brute net = model.now();
        int road = someRoad();
        boolean isRoad = road >= 0 && road < net.roads;
        what = near(2);
        int one = !isRoad ? -1 : what == 0 ? net.first[road] : what == 1 ? net.second[road] : -1;
        is("road " + road + ", " + what, x.road(road, what), one);
        what = near(3);
        int made = Due.NO_NUMBER;
        if (isRoad && net.open[road] && what >= 0 && what < 3) {
            made = what == 0 ? net.made[road] : what == 1 ? net.gain(road) : net.doubt[road];
        }
        is("made " + road + ", " + what, x.made(road, what), made);
        k = near(60);
        is("octet " + k, x.octet(k), model.octet(k));
        is("ended", x.ended(), model.ended());
    }

    private void lookAtMost() {
        Brute net = model.now();
        int road = someRoad();
        int set = near(1 << net.people);
        switch (due.next(8)) {
            case 0:
                is("most", x.most(false), net.most(net.everybody()));
                is("halves", x.most(true), net.halves());
                break;
            case 1:
                row(net);
                break;
            case 2:
                is("of " + set, x.of(set), set >= 0 && set <= net.everybody() ? net.most(set) : -1);
                break;
            case 3:
                is("ways", x.ways(), net.ways());
                break;
            case 4:
                boolean isRoad = road >= 0 && road < net.roads;
                is("price " + road, x.price(road), isRoad ? net.price(road, model.tastes(road)) : -1);
                break;
            case 5:
                ends(net);
                break;
            case 6:
                two(net);
                break;
            default:
                moves(net, road);
        }
    }

    private void row(Brute net) {
        int row = net.row();
        int k = near(4);
        int want = -1;
        for (int road = net.roads - 1; road >= 0; road--) {
            boolean isIt = (row >> road & 1) != 0 && Integer.bitCount(row & (1 << road) - 1) == k;
            want = isIt ? road : want;
        }
        is("row " + k, x.row(k), want);
    }

    private void ends(Brute net) {
        List<int[]> shares = net.shares();
        int who = somebody();
        boolean is = model.isSomebody(who) && !shares.isEmpty();
        int[] ends = is ? Brute.ends(shares, who, 1, who, 0) : new int[] {-1, -1};
        boolean greatest = due.next(2) == 0;
        is("end " + who, x.end(who, greatest), ends[greatest ? 1 : 0]);
    }

    private void two(Brute net) {
        List<int[]> shares = net.shares();
        int one = somebody();
        int other = somebody();
        boolean ahead = due.next(2) == 0;
        boolean greatest = due.next(2) == 0;
        int want = Due.NO_NUMBER;
        if (model.isSomebody(one) && model.isSomebody(other) && one != other && !shares.isEmpty()) {
            want = Brute.ends(shares, one, 1, other, ahead ? -1 : 1)[greatest ? 1 : 0];
        }
        is("two " + one + ", " + other + ", " + ahead + ", " + greatest, x.two(one, other, ahead, greatest), want);
    }

    private void moves(Brute net, int road) {
        int worth = someWorth();
        boolean isRoad = road >= 0 && road < net.roads;
        int moved = -1;
        if (isRoad && worth >= -1 && worth <= 100000) {
            Integer made = worth < 0 ? null : Integer.valueOf(worth + model.tastes(road));
            moved = MostTest.moved(net, net.with(road, made), false);
        }
        is("moves " + road + ", " + worth, x.moves(road, worth), moved);
        is("pays " + road, x.pays(road), isRoad ? MostTest.moved(net, net.with(road, null), true) : -1);
    }

    private void lookAtDeals() {
        Brute net = model.now();
        Integer[] deals = model.dealsNow();
        int[] share = net.share(deals);
        int who = somebody();
        boolean is = model.isSomebody(who);
        boolean to = due.next(2) == 0;
        switch (due.next(4)) {
            case 0:
                is("share " + who, x.share(who), is ? share[who] : Due.NO_NUMBER);
                is("money " + who, x.money(who),
                        is ? share[who] - DealTest.ownTaste(net, deals, who) : Due.NO_NUMBER);
                break;
            case 1:
                int other = to ? is ? net.turnsTo(deals, who) : 0 : is ? net.elseOf(deals, who) : 0;
                is("other " + who + ", " + to, x.other(who, to), is ? other : Due.NO_NUMBER);
                int k = near(net.people);
                List<Integer> chain = is ? DealTest.chain(net, deals, who) : List.of();
                is("chain " + who + ", " + k, x.chain(who, k), k >= 0 && k < chain.size() ? chain.get(k) : -1);
                break;
            case 2:
                is("gift", x.gift(), net.giftByHalves(deals));
                is("away", x.away(), DealTest.away(net, share));
                break;
            default:
                int[] holds = DealTest.holds(net, deals);
                is("breaks", x.breaks(), holds[0]);
                is("uneven", x.uneven(), holds[1]);
                is("surely", x.surely(), holds[2]);
        }
    }
}
