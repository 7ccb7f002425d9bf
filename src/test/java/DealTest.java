import java.util.ArrayList;
import java.util.Arrays;
import java.util.List;

/** Promises 23 to 36: deals by hand and what comes of them; beside slow answers of Brute. */
public final class DealTest {
    private static final String TEXT = "who a alone 1;who b alone 2;who c alone 3;who d alone 4;"
            + "road a b worth 10;road c b worth 12 when day<5;road c d worth 20;"
            + "taste a b 3;taste b a less 1;taste d c 2;";

    private final Due due = new Due("DealTest");

    public static void main(String[] args) {
        DealTest test = new DealTest();
        test.telling();
        test.refused();
        test.notOpenNow();
        test.dealRows();
        test.shares();
        test.breaking();
        test.goingAway();
        test.turningTo();
        test.chains();
        test.evenOnes();
        test.restsAndRings();
        test.farOnes();
        test.doubts();
        test.gifts();
        for (int n = 0; n < 400; n++) {
            test.likeRandom(3 + test.due.next(6), 2 + test.due.next(14));
        }
        for (int n = 0; n < 20; n++) {
            test.likeRandom(9 + test.due.next(4), 6 + test.due.next(10));
        }
        test.due.end();
    }

    private void telling() {
        RoadDeals x = Due.with(TEXT);
        due.is("deal", x.deal(0, 7), 1);
        due.is("deal on one at it", x.deal(1, 5), -1);
        due.is("deal", x.deal(2, 30), 2);
        due.is("has(6)", x.has(6), 2);
        due.is("deal in place of it", x.deal(0, -5), 2);
        due.is("share", x.share(0), -5);
        due.is("share", x.share(1), 17);
        due.is("share", x.share(2), 30);
        due.is("share", x.share(3), -8);
        due.is("undeal", x.undeal(0), 1);
        due.is("undeal again", x.undeal(0), -1);
        due.is("share", x.share(0), 1);
        due.is("one at it", x.deal(1, 5), -1);
        due.is("undeal", x.undeal(2), 0);
        due.is("deal", x.deal(1, 5), 1);
        due.is("undeal(3)", x.undeal(3), -1);
        due.is("undeal(-1)", x.undeal(-1), -1);
        due.is("deals", x.has(6), 1);
    }

    private void refused() {
        RoadDeals x = Due.with(TEXT);
        due.is("deal(-1)", x.deal(-1, 5), -1);
        due.is("deal(3)", x.deal(3, 5), -1);
        due.is("too much", x.deal(0, 1000001), -1);
        due.is("too little", x.deal(0, -1000001), -1);
        due.is("least", x.deal(0, Integer.MIN_VALUE), -1);
        due.is("none", x.has(6), 0);
        due.is("most", x.deal(0, 1000000), 1);
        due.is("share", x.share(1), 12 - 1000000);
        due.is("least", x.deal(0, -1000000), 1);
        due.is("share", x.share(1), 12 + 1000000);
        x.day(5);
        due.is("not open", x.deal(1, 5), -1);
        for (int who : new int[] {-1, 4, Integer.MAX_VALUE, Integer.MIN_VALUE}) {
            due.is("share", x.share(who), Due.NO_NUMBER);
            due.is("money", x.money(who), Due.NO_NUMBER);
            due.is("other", x.other(who, false), Due.NO_NUMBER);
            due.is("other", x.other(who, true), Due.NO_NUMBER);
            due.is("chain", x.chain(who, 0), -1);
        }
    }

    /** A deal on a road that is not open is told, but is none now. */
    private void notOpenNow() {
        RoadDeals x = Due.with(TEXT);
        due.is("deal", x.deal(1, 8), 1);
        due.is("share", x.share(1), 4);
        due.is("share", x.share(2), 8);
        x.day(5);
        due.is("told", x.has(6), 1);
        due.is("share", x.share(1), 2);
        due.is("share", x.share(2), 3);
        due.is("money", x.money(2), 3);
        due.is("uneven", x.uneven(), -1);
        due.is("in place of it, not open", x.deal(1, 9), -1);
        due.is("told of one", x.deal(0, 5), -1);
        due.is("breaks", x.breaks(), 0);
        due.is("haggle", x.haggle(5), 1);
        x.day(4);
        due.is("share", x.share(2), 8);
        x.worth(1, 30);
        due.is("first has as much", x.share(2), 8);
        due.is("second has the rest", x.share(1), 22);
        x.worth(1, -1);
        due.is("closed", x.share(2), 3);
        due.is("undeal", x.undeal(1), 0);
        x.as(0);
        due.is("gone", x.share(2), 3);
    }

    private void dealRows() {
        RoadDeals x = Due.with(TEXT);
        x.deal(1, 8);
        // Gains: 12 - 3 = 9 and 22 - 7 = 15.
        due.is("dealRow", x.dealRow(), 2);
        due.is("share", x.share(0), 1 + 4);
        due.is("share", x.share(1), 2 + 5);
        due.is("share", x.share(2), 3 + 7);
        due.is("share", x.share(3), 4 + 8);
        due.is("deals", x.has(6), 2);
        x.worth(0, -1);
        x.worth(2, 0);
        due.is("dealRow", x.dealRow(), 1);
        due.is("share", x.share(2), 3 + 3);
        due.is("share", x.share(1), 2 + 4);
        x.worth(1, 0);
        due.is("told, but not in the row", x.has(6), 1);
        due.is("no row", x.dealRow(), 0);
        due.is("all went", x.has(6), 0);
    }

    private void shares() {
        RoadDeals x = Due.with(TEXT);
        due.is("share alone", x.share(3), 4);
        due.is("money alone", x.money(3), 4);
        x.deal(0, 7);
        x.deal(2, 9);
        due.is("money", x.money(0), 4);
        due.is("money", x.money(1), 6);
        due.is("money", x.money(2), 9);
        due.is("money", x.money(3), 11);
    }

    private void breaking() {
        RoadDeals x = Due.with(TEXT);
        due.is("breaks", x.breaks(), 0);
        due.is("away", x.away(), 3);
        x.deal(0, 6);
        due.is("breaks", x.breaks(), 1);
        due.is("away", x.away(), 6);
        x.deal(2, 6);
        due.is("just holds", x.breaks(), -1);
        due.is("nobody goes away", x.away(), 0);
        x.deal(0, 7);
        due.is("breaks", x.breaks(), 1);
        x.deal(0, 0);
        due.is("a is lone", x.breaks(), 100);
        due.is("alone away", x.away(), 1);
        x.deal(0, 11);
        due.is("b is lone", x.breaks(), 101);
        due.is("alone away", x.away(), 2);
        x.deal(0, 10);
        due.is("as alone is not lone", x.breaks(), 1);
        x.deal(2, 19);
        due.is("d is lone", x.breaks(), 103);
        x.day(7);
        x.deal(2, 18);
        due.is("holds", x.breaks(), -1);
    }

    /** Everybody together, just not more than they have, and one alone. */
    private void goingAway() {
        RoadDeals x = Due.with("who a alone 2;who b alone 2;road a b worth 5;");
        due.is("everybody", x.away(), 3);
        due.is("deal", x.deal(0, 2), 1);
        due.is("nobody", x.away(), 0);
        due.is("deal", x.deal(0, 4), 1);
        due.is("b alone", x.away(), 2);
        due.is("deal", x.deal(0, 1), 1);
        due.is("a alone, the least set", x.away(), 1);
        x.worth(0, 4);
        due.is("undeal", x.undeal(0), 0);
        due.is("as much is not more", x.away(), 0);
    }

    private void turningTo() {
        RoadDeals x = Due.with(TEXT);
        due.is("else", x.other(1, false), 11);
        due.is("to", x.other(1, true), 0);
        due.is("else", x.other(2, false), 18);
        due.is("to", x.other(2, true), 3);
        x.deal(0, 6);
        due.is("else but the deal", x.other(0, false), 1);
        due.is("to nobody", x.other(0, true), -1);
        due.is("else", x.other(1, false), 9);
        due.is("to", x.other(1, true), 2);
        x.deal(2, 9);
        due.is("else", x.other(1, false), 3);
        x.deal(2, 10);
        due.is("alone is as good", x.other(1, false), 2);
        due.is("to nobody", x.other(1, true), -1);
        x = Due.with("who a alone 0;who b alone 0;who c alone 0;who d alone 0;"
                + "road d a worth 5;road c d worth 7;road b d worth 7;");
        due.is("else", x.other(3, false), 7);
        due.is("the first of them", x.other(3, true), 1);
    }

    private void chains() {
        RoadDeals x = Due.with("who a alone 0;who b alone 0;who c alone 0;who d alone 0;who e alone 1;"
                + "road a b worth 5;road b c worth 7;road c d worth 9;road d b worth 10;");
        int[] chain = {0, 1, 3, -1, -1, -1};
        for (int k = 0; k < 6; k++) {
            due.is("chain(0)", x.chain(0, k), chain[k]);
        }
        due.is("chain(-1)", x.chain(0, -1), -1);
        due.is("chain far", x.chain(0, Integer.MAX_VALUE), -1);
        due.is("chain(4)", x.chain(4, 0), 4);
        due.is("chain(4) ends", x.chain(4, 1), -1);
        due.is("chain(2)", x.chain(2, 1), 3);
        due.is("chain(2)", x.chain(2, 2), 1);
        due.is("chain(2) comes to one in it", x.chain(2, 3), -1);
        // Twelve in a row, each turning to the next one.
        StringBuilder text = new StringBuilder();
        for (int who = 0; who < 12; who++) {
            text.append("who ").append(Brute.name(who)).append(" alone 0;");
        }
        for (int who = 0; who < 11; who++) {
            text.append("road ").append(Brute.name(who)).append(' ').append(Brute.name(who + 1));
            text.append(" worth ").append(who + 1).append(";");
        }
        x = Due.with(text.toString());
        for (int k = 0; k < 14; k++) {
            due.is("long chain", x.chain(0, k), k < 12 ? k : -1);
        }
    }

    private void evenOnes() {
        RoadDeals x = Due.with(TEXT);
        due.is("no deals", x.uneven(), -1);
        x.deal(2, 10);
        x.deal(0, 5);
        // ELSE of a is 1, of b 2: LEFT is 9, floor(9 / 2) is 4.
        due.is("even", x.uneven(), 2);
        x.deal(0, 6);
        due.is("not even", x.uneven(), 0);
        x.deal(0, 5);
        // ELSE of c is 12 - 7 = 5, of d 4: LEFT is 13.
        x.deal(2, 11);
        due.is("all even", x.uneven(), -1);
        x.deal(2, 12);
        due.is("not even", x.uneven(), 2);
        // LEFT below 0: half of it is rounded down, too.
        x = Due.with("who a alone 3;who b alone 4;road a b worth 2;");
        x.deal(0, 0);
        due.is("even", x.uneven(), -1);
        x.deal(0, 1);
        due.is("not even", x.uneven(), 0);
    }

    private void restsAndRings() {
        RoadDeals x = Due.with(TEXT);
        due.is("ended without one", x.ended(), -1);
        due.is("haggle(0)", x.haggle(0), -1);
        due.is("haggle(1001)", x.haggle(1001), -1);
        due.is("haggle(-1)", x.haggle(-1), -1);
        due.is("ended without one", x.ended(), -1);
        x.deal(0, 9);
        x.deal(2, 3);
        due.is("one round", x.haggle(1), -3);
        due.is("ended", x.ended(), 2);
        due.is("share", x.share(0), 2);
        due.is("share", x.share(2), 10);
        due.is("refused", x.haggle(0), -1);
        due.is("ended stays", x.ended(), 2);
        due.is("to rest", x.haggle(1000), 2);
        due.is("share", x.share(0), 5);
        due.is("share", x.share(2), 11);
        due.is("ended", x.ended(), 0);
        due.is("even", x.uneven(), -1);
        due.is("at once", x.haggle(1), 1);
        due.is("a text", Due.told(x, TEXT), 10);
        due.is("ended stays", x.ended(), 0);
        due.is("without deals", x.haggle(1000), 1);
        rings();
    }

    /** Four deals that go in a ring, each turning the next one. */
    private void rings() {
        Brute net = Brute.of(8, 8);
        net.alone = new int[] {1, 0, 1, 2, 0, 1, 1, 3};
        int[][] pairs = {{0, 1}, {2, 3}, {4, 5}, {6, 7}, {0, 7}, {1, 2}, {1, 4}, {3, 6}};
        for (int[] pair : pairs) {
            net.add(pair[0], pair[1], pair[1] == 4 ? 1 : 9);
        }
        String text = net.text(due);
        for (int rounds = 1; rounds < 10; rounds++) {
            RoadDeals x = Due.with(text);
            Integer[] has = new Integer[8];
            int[] from = {3, 2, 11, -3};
            for (int road = 0; road < 4; road++) {
                due.is("deal", x.deal(road, from[road]), road + 1);
                has[road] = from[road];
            }
            haggles(x, net, has, rounds);
            due.is("ended", x.ended(), rounds < 4 ? 2 : 1);
            due.is("uneven", x.uneven() >= 0, true);
            haggles(x, net, has, 1000);
            due.is("rings again", x.ended(), 1);
            due.is("a fault", Due.told(x, "who"), -1);
            due.is("ended stays", x.ended(), 1);
        }
    }

    /** Deals at the limits of what a first one has. */
    private void farOnes() {
        RoadDeals x = Due.with("who a alone 0;who b alone 0;road a b worth 8;");
        x.deal(0, 1000000);
        due.is("to the middle", x.haggle(2), 2);
        due.is("share", x.share(0), 4);
        for (int n = 0; n < 300; n++) {
            Brute net = Brute.random(due, 4 + due.next(6), 30, 3, 12);
            RoadDeals y = Due.with(net.text(due));
            Integer[] has = new Integer[net.roads];
            for (int k = 0; k < 2 * net.roads; k++) {
                int road = due.next(net.roads);
                int first = (due.next(2) == 0 ? 1 : -1) * (1000000 - due.next(40));
                if (y.deal(road, first) >= 0) {
                    has[road] = first;
                }
            }
            check(y, net, has, false);
            haggles(y, net, has, 1 + due.next(40));
        }
    }

    private void doubts() {
        String text = "who a alone 0;who b alone 0;who c alone 0;who d alone 0;road a b worth 10;"
                + "road b c worth 12;road c d worth 8;doubt c b 3;doubt a b 9;doubt d c 9;";
        RoadDeals x = Due.with(text);
        due.is("no deals", x.surely(), 0);
        x.deal(0, 2);
        x.deal(2, 7);
        due.is("8 and 7 are 15", x.surely(), 2);
        x.deal(2, 6);
        due.is("8 and 6 are 14", x.surely(), 1);
        x.deal(2, 1);
        due.is("8 and 1 are 9", x.surely(), 1);
        x.deal(2, 0);
        due.is("8 and 0 are 8", x.surely(), 0);
        x.deal(2, 9);
        due.is("one is lone", x.surely(), 0);
        x.deal(2, 8);
        due.is("8 and 8", x.surely(), 2);
        x.worth(1, -1);
        x.deal(2, 0);
        due.is("closed", x.surely(), 2);
    }

    private void gifts() {
        RoadDeals x = Due.with("who a alone 0;who b alone 0;who c alone 0;road a b worth 5;road b c worth 5;road a c worth 5;");
        due.is("halves of it", x.gift(), 15);
        x.deal(0, 2);
        due.is("the third one", x.gift(), 6);
        x.deal(0, -4);
        due.is("a lone one, too", x.gift(), 18);
        x = Due.with("who a alone 5;who b alone 5;road a b worth 3;");
        due.is("nothing", x.gift(), 0);
        x.deal(0, 0);
        due.is("both are lone", x.gift(), 14);
        x.deal(0, 1000000);
        due.is("far", x.gift(), 2 * (1000000 - 3 + 5));
    }

    private Integer[] deals(RoadDeals x, Brute net) {
        Integer[] has = new Integer[net.roads];
        int taken = 0;
        int count = 0;
        for (int n = 0; n < 12; n++) {
            int road = due.next(net.roads);
            int first = due.next(24) - 4;
            int pair = 1 << net.first[road] | 1 << net.second[road];
            boolean can = has[road] != null || (taken & pair) == 0;
            if (can) {
                count += has[road] == null ? 1 : 0;
                has[road] = first;
                taken |= pair;
            }
            due.is("deal", x.deal(road, first), can ? count : -1);
        }
        return has;
    }

    private void likeRandom(int people, int roads) {
        Brute net = Brute.random(due, people, roads, 4, 8);
        String text = net.text(due);
        if (net.roads == 0 || text.length() > 900) {
            return;
        }
        RoadDeals x = Due.with(text);
        check(x, net, new Integer[net.roads]);
        Integer[] has = deals(x, net);
        check(x, net, has);
        int road = due.next(net.roads);
        x.worth(road, -1);
        check(x, net.with(road, null), open(has, road));
        x.as(0);
        haggles(x, net, has, 1 + due.next(30));
        check(x, net, has);
        x.dealRow();
        Integer[] row = new Integer[net.roads];
        for (int k = 0; x.row(k) >= 0; k++) {
            row[x.row(k)] = net.alone[net.first[x.row(k)]] + net.gain(x.row(k)) / 2;
        }
        check(x, net, row);
    }

    private static Integer[] open(Integer[] has, int closed) {
        Integer[] it = has.clone();
        it[closed] = null;
        return it;
    }

    private void check(RoadDeals x, Brute net, Integer[] has) {
        check(x, net, has, net.people < 5);
    }

    private void check(RoadDeals x, Brute net, Integer[] has, boolean gift) {
        int[] share = net.share(has);
        for (int who = 0; who < net.people; who++) {
            due.is("share", x.share(who), share[who]);
            due.is("else", x.other(who, false), net.elseOf(has, who));
            due.is("to", x.other(who, true), net.turnsTo(has, who));
            due.is("money", x.money(who), share[who] - ownTaste(net, has, who));
            List<Integer> chain = chain(net, has, who);
            for (int k = 0; k < net.people + 2; k++) {
                due.is("chain", x.chain(who, k), k < chain.size() ? chain.get(k) : -1);
            }
        }
        int[] holds = holds(net, has);
        due.is("breaks", x.breaks(), holds[0]);
        due.is("uneven", x.uneven(), holds[1]);
        due.is("surely", x.surely(), holds[2]);
        due.is("away", x.away(), away(net, share));
        due.is("gift by halves", x.gift(), net.giftByHalves(has));
        if (gift) {
            due.is("gift", x.gift(), net.gift(has));
        }
    }

    static List<Integer> chain(Brute net, Integer[] has, int who) {
        List<Integer> chain = new ArrayList<>();
        for (int at = who; at >= 0 && !chain.contains(at); at = net.turnsTo(has, at)) {
            chain.add(at);
        }
        return chain;
    }

    /** What breaks(), uneven() and surely() are to tell. */
    static int[] holds(Brute net, Integer[] has) {
        int[] share = net.share(has);
        int lone = -1;
        for (int who = net.people - 1; who >= 0; who--) {
            lone = share[who] < net.alone[who] ? who : lone;
        }
        int breaks = -1;
        int uneven = -1;
        boolean surely = lone < 0;
        boolean maybe = lone < 0;
        for (int road = net.roads - 1; road >= 0; road--) {
            int have = share[net.first[road]] + share[net.second[road]];
            if (net.open[road] && have < net.made[road]) {
                breaks = road;
            }
            if (has[road] != null && has[road] != net.even(has, road)) {
                uneven = road;
            }
            if (net.open[road] && has[road] == null) {
                surely &= have >= net.made[road] + net.doubt[road];
                maybe &= have >= net.made[road] - net.doubt[road];
            }
        }
        return new int[] {lone >= 0 ? 100 + lone : breaks, uneven, surely ? 2 : maybe ? 1 : 0};
    }

    static int away(Brute net, int[] share) {
        for (int set = 1; set <= net.everybody(); set++) {
            int need = net.most(set);
            for (int who = 0; who < net.people; who++) {
                need += (set >> who & 1) * (net.alone[who] - share[who]);
            }
            if (need > 0) {
                return set;
            }
        }
        return 0;
    }

    static int ownTaste(Brute net, Integer[] has, int who) {
        for (int road = 0; road < net.roads; road++) {
            if (has[road] != null && (net.first[road] == who || net.second[road] == who)) {
                return net.taste[who][net.first[road] + net.second[road] - who];
            }
        }
        return 0;
    }

    private void haggles(RoadDeals x, Brute net, Integer[] has, int rounds) {
        List<Integer[]> past = new ArrayList<>();
        past.add(has.clone());
        int want = -2 - rounds;
        int ended = 2;
        for (int gone = 1; gone <= rounds && ended == 2; gone++) {
            for (int road = 0; road < net.roads; road++) {
                if (has[road] != null) {
                    has[road] = Math.max(-1000000, Math.min(1000000, net.even(has, road)));
                }
            }
            for (int n = 0; n < past.size() && ended == 2; n++) {
                if (Arrays.equals(past.get(n), has)) {
                    ended = n == gone - 1 ? 0 : 1;
                    want = gone;
                }
            }
            past.add(has.clone());
        }
        due.is("haggle", x.haggle(rounds), want);
        due.is("ended", x.ended(), ended);
        for (int who = 0; who < net.people; who++) {
            due.is("share then", x.share(who), net.share(has)[who]);
        }
    }
}
