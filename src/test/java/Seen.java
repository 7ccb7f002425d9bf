import java.util.Arrays;

/** All that can be seen of an object of 4 people and 4 roads at most, to be compared behind a refused call. */
final class Seen {
    private static final int MOST = 4;
    private static final int OCTETS = 24;

    private final int[] all = new int[200];
    private int count;

    private Seen() {
    }

    /** Some 140 calls; none of them is one that changes anything. */
    static int[] of(RoadDeals x) {
        Seen it = new Seen();
        for (int what = 0; what < 8; what++) {
            it.put(x.has(what));
        }
        for (int k = 0; k < MOST; k++) {
            it.road(x, k);
            it.somebody(x, k);
        }
        it.all(x);
        for (int k = 0; k < OCTETS; k++) {
            it.put(x.octet(k));
        }
        return Arrays.copyOf(it.all, it.count);
    }

    private void put(int answer) {
        all[count] = answer;
        count++;
    }

    private void road(RoadDeals x, int road) {
        put(x.road(road, 0));
        put(x.road(road, 1));
        put(x.made(road, 0));
        put(x.made(road, 1));
        put(x.made(road, 2));
        put(x.moves(road, -1));
        put(x.moves(road, 16));
        put(x.pays(road));
        put(x.price(road));
    }

    private void somebody(RoadDeals x, int who) {
        put(x.letter(who, 0));
        put(x.letter(who, 1));
        put(x.end(who, false));
        put(x.end(who, true));
        put(x.two(who, (who + 1) % MOST, false, true));
        put(x.two(who, (who + 1) % MOST, true, false));
        put(x.share(who));
        put(x.money(who));
        put(x.other(who, false));
        put(x.other(who, true));
        put(x.chain(who, 1));
        put(x.row(who));
    }

    private void all(RoadDeals x) {
        put(x.most(false));
        put(x.most(true));
        put(x.ways());
        put(x.of(7));
        put(x.breaks());
        put(x.away());
        put(x.uneven());
        put(x.ended());
        put(x.gift());
        put(x.surely());
    }

    /** An object with something of all that can be told, looked at as known at an act that is not the last one. */
    static RoadDeals full() {
        RoadDeals x = Due.with("who a alone 1;who bb alone 2;who c alone 3;who d alone 4;"
                + "road a bb worth 10;road c bb worth 12 when day<5;road c d worth 20;road d a worth 9 when day>5;"
                + "taste a bb 3;taste bb a less 1;taste d c 2;doubt a bb 1;doubt c bb 2;");
        x.day(3);
        x.worth(0, 11);
        x.worth(2, 30);
        x.worth(2, -1);
        x.annul(3);
        x.as(2);
        x.deal(0, 7);
        x.deal(2, 12);
        x.image();
        x.haggle(2);
        Due.told(x, "who a alone 1;who");
        Due.feed(x, "who z");
        return x;
    }

    /** A call that may change something. */
    interface Call {
        int on(RoadDeals x);
    }

    /** On a full object: what a refused call answers, and that all stays, the tape and the fault, too. */
    static void refused(Due due, String call, Call it, int want) {
        RoadDeals x = full();
        int[] before = of(x);
        due.is(call, it.on(x), want);
        due.is(call + ": all stays", Arrays.equals(of(x), before), true);
        due.is(call + ": the fault stays", x.fault(0) * 1000 + x.fault(1), 1017);
        due.is(call + ": the tape stays", x.end(5) && !x.end(6), true);
    }

    /** The same of calls that answer true or false. */
    static int number(boolean answer) {
        return answer ? 1 : 0;
    }
}
