import java.util.List;

/** Promises 14 to 22: most, row, end, of, moves, pays, two, price, ways; beside slow answers of Brute. */
public final class MostTest {
    private final Due due = new Due("MostTest");
    private int nets;

    public static void main(String[] args) {
        MostTest test = new MostTest();
        test.byHand();
        test.payers();
        test.odd();
        test.closedOnes();
        test.far();
        for (int n = 0; n < 400; n++) {
            int people = 2 + test.due.next(5);
            test.beside(Brute.random(test.due, people, test.due.next(11), 4, 1 + test.due.next(6)), true);
        }
        for (int n = 0; n < 60; n++) {
            test.beside(Brute.random(test.due, 7 + test.due.next(3), 13, 3, 1 + test.due.next(3)), true);
        }
        for (int n = 0; n < 20; n++) {
            test.beside(Brute.random(test.due, 10 + test.due.next(3), 14, 3, 1 + test.due.next(2)), true);
        }
        for (int n = 0; n < 40; n++) {
            test.beside(Brute.random(test.due, 7 + test.due.next(6), 60, 9, 3 + test.due.next(20)), false);
        }
        test.due.is("enough nets", test.nets > 500, true);
        test.due.end();
    }

    /** Two roads at one: who is asked by two of them has all. */
    private void byHand() {
        RoadDeals x = Due.with("who a alone 1;who b alone 2;who c alone 3;road a b worth 9;road b c worth 12;");
        due.is("most", x.most(false), 7);
        due.is("halves", x.most(true), 14);
        due.is("row(0)", x.row(0), 1);
        due.is("row(1)", x.row(1), -1);
        due.is("row(-1)", x.row(-1), -1);
        due.is("row(far)", x.row(Integer.MAX_VALUE), -1);
        int[] least = {2, 16, 6};
        int[] greatest = {2, 18, 8};
        for (int who = 0; who < 3; who++) {
            due.is("least of " + who, x.end(who, false), least[who]);
            due.is("most of " + who, x.end(who, true), greatest[who]);
        }
        due.is("end(-1)", x.end(-1, true), -1);
        due.is("end(3)", x.end(3, true), -1);
        due.is("of", x.of(0), 0);
        due.is("of", x.of(3), 6);
        due.is("of", x.of(5), 0);
        due.is("of", x.of(7), 7);
        due.is("of none", x.of(8), -1);
        due.is("of none", x.of(-1), -1);
        due.is("of none", x.of(Integer.MIN_VALUE), -1);
        due.is("moves", x.moves(0, -1), 6);
        due.is("moves, as it is", x.moves(0, 9), 0);
        due.is("moves", x.moves(1, -1), 7);
        due.is("nobody pays", x.pays(0), 0);
        due.is("nobody pays", x.pays(1), 0);
        due.is("moves of none", x.moves(2, 5), -1);
        due.is("moves of none", x.moves(-1, 5), -1);
        due.is("moves -2", x.moves(0, -2), -1);
        due.is("moves 100001", x.moves(0, 100001), -1);
        due.is("moves 100000", x.moves(0, 100000), 7);
        due.is("moves 0", x.moves(0, 0), 6);
        due.is("pays of none", x.pays(2), -1);
        due.is("pays of none", x.pays(-1), -1);
        due.is("price", x.price(0), 10);
        due.is("price", x.price(1), 11);
        due.is("price of none", x.price(2), -1);
        due.is("price of none", x.price(-1), -1);
        due.is("both", x.two(1, 2, false, false), 24);
        due.is("both", x.two(1, 2, false, true), 24);
        due.is("ahead", x.two(1, 2, true, false), 8);
        due.is("ahead", x.two(1, 2, true, true), 12);
        due.is("ahead", x.two(2, 1, true, false), -12);
        due.is("two, the same one", x.two(1, 1, true, true), Due.NO_NUMBER);
        due.is("two, nobody", x.two(1, 3, true, true), Due.NO_NUMBER);
        due.is("two, nobody", x.two(-1, 1, false, true), Due.NO_NUMBER);
        due.is("ways", x.ways(), 1);
        x.worth(0, 10);
        due.is("ways", x.ways(), 2);
        due.is("the first row", x.row(0), 0);
    }

    /** Without the road of two, one of them is cheap for the next one. */
    private void payers() {
        RoadDeals x = Due.with("who a alone 0;who b alone 1;who c alone 2;who d alone 0;"
                + "road a b worth 7;road b c worth 7;road c d worth 7;");
        due.is("least of b", x.end(1, false), 2);
        due.is("least of c", x.end(2, false), 4);
        due.is("b pays", x.pays(2), 2);
        due.is("c pays", x.pays(0), 4);
        due.is("nobody pays", x.pays(1), 0);
        due.is("all stays", x.end(1, false), 2);
    }

    /** Three in a ring: halves make more, nothing holds. */
    private void odd() {
        RoadDeals x = Due.with("who a alone 0;who b alone 0;who c alone 0;who d alone 5;"
                + "road a b worth 10;road b c worth 10;road a c worth 10;");
        due.is("most", x.most(false), 10);
        due.is("halves", x.most(true), 30);
        due.is("ways", x.ways(), 3);
        due.is("end", x.end(0, true), -1);
        due.is("end", x.end(3, false), -1);
        due.is("two", x.two(0, 1, false, true), Due.NO_NUMBER);
        due.is("moves", x.moves(0, -1), 15);
        due.is("moves, none with both", x.moves(0, 11), 0);
        due.is("pays", x.pays(0), 0);
        due.is("closed", x.worth(0, -1), 1);
        due.is("end", x.end(2, true), 20);
        due.is("pays", x.pays(0), 0);
        due.is("moves", x.moves(0, 10), 15);
    }

    private void closedOnes() {
        RoadDeals x = Due.with("who a alone 1;who b alone 1;who c alone 1;road a b worth 9 when not all;road b c worth 4;");
        due.is("most", x.most(false), 2);
        due.is("as if it were open", x.moves(0, 6), 7);
        due.is("closed as it is", x.moves(0, -1), 0);
        due.is("nobody pays", x.pays(0), 0);
        due.is("price", x.price(0), 4);
        x.worth(0, 9);
        due.is("most", x.most(false), 7);
        x.as(0);
        due.is("most as known at 0", x.most(false), 2);
        due.is("row", x.row(0), 1);
        x.as(1);
        due.is("row", x.row(0), 0);
    }

    private void far() {
        RoadDeals x = Due.with("who a alone 0;who b alone 0;who c alone 0;who d alone 0;road b c worth 0;"
                + "road a b worth 9999*11;road c d worth 9999*11;taste b c less 9999;taste a b 9999;");
        due.is("made", x.made(1, 0), 109999);
        due.is("most", x.most(false), 209999);
        due.is("halves", x.most(true), 419998);
        due.is("a price above any worth", x.price(0), 219998);
        due.is("end", x.end(0, true), 219998);
        due.is("end", x.end(0, false), 0);
        x = Due.with("who a alone 9999;who b alone 9999;road a b worth 5;");
        due.is("no gain", x.made(0, 1), 0);
        due.is("price", x.price(0), 19998);
        due.is("ends", x.end(0, true), 19998);
        due.is("row", x.row(0), -1);
        due.is("ways", x.ways(), 1);
    }

    private void beside(Brute net, boolean small) {
        String text = net.text(due);
        if (text.length() > 900) {
            return;
        }
        nets++;
        RoadDeals x = Due.with(text);
        for (int road = 0; road < net.roads; road++) {
            int worth = x.made(road, 0) - net.made[road];
            due.is("made", worth, 0);
            due.is("doubt", x.made(road, 2), net.doubt[road]);
        }
        for (int step = 0; step < (small ? 3 : 1) && net.roads > 0; step++) {
            checkMost(x, net);
            if (small) {
                checkEnds(x, net);
            }
            int road = due.next(net.roads);
            int tastes = net.taste[net.first[road]][net.second[road]] + net.taste[net.second[road]][net.first[road]];
            int worth = due.next(12) - 1;
            x.worth(road, worth);
            net = net.with(road, worth < 0 ? null : Integer.valueOf(worth + tastes));
        }
    }

    private void checkMost(RoadDeals x, Brute net) {
        due.is("most", x.most(false), net.most(net.everybody()));
        due.is("halves", x.most(true), net.halvesByRows());
        due.is("ways", x.ways(), net.ways());
        int row = net.row();
        int k = 0;
        for (int road = 0; road < net.roads; road++) {
            if ((row >> road & 1) != 0) {
                due.is("row", x.row(k), road);
                k++;
            }
        }
        due.is("row", x.row(k), -1);
        for (int n = 0; n < 8; n++) {
            int set = due.next(net.everybody() + 1);
            due.is("of", x.of(set), net.most(set));
        }
        for (int road = 0; road < net.roads; road += 3) {
            int tastes = net.taste[net.first[road]][net.second[road]] + net.taste[net.second[road]][net.first[road]];
            due.is("price", x.price(road), net.price(road, tastes));
        }
    }

    private void checkEnds(RoadDeals x, Brute net) {
        due.is("halves", x.most(true), net.halves());
        List<int[]> shares = net.shares();
        due.is("there are such", shares.isEmpty(), x.most(true) != 2 * x.most(false));
        for (int who = 0; who < net.people; who++) {
            int[] ends = Brute.ends(shares, who, 1, who, 0);
            due.is("least", x.end(who, false), ends == null ? -1 : ends[0]);
            due.is("greatest", x.end(who, true), ends == null ? -1 : ends[1]);
            for (int other = 0; other < net.people; other++) {
                if (other != who) {
                    checkTwo(x, who, other, false, Brute.ends(shares, who, 1, other, 1));
                    checkTwo(x, who, other, true, Brute.ends(shares, who, 1, other, -1));
                }
            }
        }
        for (int road = 0; road < net.roads; road++) {
            int worth = due.next(12) - 1;
            int tastes = net.taste[net.first[road]][net.second[road]] + net.taste[net.second[road]][net.first[road]];
            Brute then = net.with(road, worth < 0 ? null : Integer.valueOf(worth + tastes));
            due.is("moves", x.moves(road, worth), moved(net, then, false));
            due.is("pays", x.pays(road), moved(net, net.with(road, null), true));
        }
    }

    private void checkTwo(RoadDeals x, int who, int other, boolean ahead, int[] ends) {
        due.is("two, least", x.two(who, other, ahead, false), ends == null ? Due.NO_NUMBER : ends[0]);
        due.is("two, greatest", x.two(who, other, ahead, true), ends == null ? Due.NO_NUMBER : ends[1]);
    }

    /** Who has other ends then (or whose least ones grow), as bits. */
    static int moved(Brute now, Brute then, boolean leastGrow) {
        List<int[]> nowShares = now.shares();
        List<int[]> thenShares = then.shares();
        if (leastGrow && (nowShares.isEmpty() || thenShares.isEmpty())) {
            return 0;
        }
        int set = 0;
        for (int who = 0; who < now.people; who++) {
            int[] one = Brute.ends(nowShares, who, 1, who, 0);
            int[] other = Brute.ends(thenShares, who, 1, who, 0);
            boolean isMoved = one == null || other == null ? one != other : one[0] != other[0] || one[1] != other[1];
            if (leastGrow ? other[0] > one[0] : isMoved) {
                set |= 1 << who;
            }
        }
        return set;
    }
}
