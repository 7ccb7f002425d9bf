import java.util.Arrays;

/**
 * Promises 23 to 39 and part III of the terms: each sentence that names a limit, what is empty or full, or a refused
 * call has a test of its own, which stands under its words.
 */
public final class DealBoundsTest {
    private static final int[] NO_ROADS = {-1, 4, 5, 30, 31, -2, Integer.MAX_VALUE, Integer.MIN_VALUE};
    private static final int[] NOBODIES = {-1, 4, 5, 12, 13, -2, Integer.MAX_VALUE, Integer.MIN_VALUE};
    private static final int[] TOO_FAR = {-1000001, 1000001, -1000002, 2000000, Integer.MAX_VALUE, Integer.MIN_VALUE};
    private static final String AB = "who a alone 0;who b alone 0;who c alone 0;who d alone 0;";
    private static final String THREE = AB + "road a b worth 10;road c b worth 12 when day<5;road c d worth 20;";

    private final Due due = new Due("DealBoundsTest");

    public static void main(String[] args) {
        DealBoundsTest test = new DealBoundsTest();
        test.dealsRefused();
        test.dealsAtTheLimits();
        test.oneOfTheTwoHasOne();
        test.sixDeals();
        test.undeals();
        test.rowsDealt();
        test.sharesRefused();
        test.sharesNotOpen();
        test.moneyRefused();
        test.othersRefused();
        test.aloneIsAsGood();
        test.chainsRefused();
        test.chainsToTheirEnd();
        test.breaksAtTheLimits();
        test.awayAtTheLimits();
        test.unevenOnes();
        test.hagglesRefused();
        test.restsAtTheLimit();
        test.ringsAtTheLimit();
        test.sixDealsAThousandRounds();
        test.endedWithoutOne();
        test.giftsAtTheLimits();
        test.sureAtTheLimits();
        test.imagesAtTheLimits();
        test.octets();
        test.imagesTaken();
        test.imagesRefused();
        test.anEmptyTapeIsNoImage();
        test.due.end();
    }

    /** "NONE if it can't be, the ROAD is not OPEN, or one of the two has one on another ROAD" */
    private void dealsRefused() {
        for (int road : NO_ROADS) {
            Seen.refused(due, "deal " + road, y -> y.deal(road, 5), -1);
        }
        for (int first : TOO_FAR) {
            Seen.refused(due, "deal 0, " + first, y -> y.deal(0, first), -1);
            Seen.refused(due, "deal 1, " + first, y -> y.deal(1, first), -1);
        }
        Seen.refused(due, "not open", y -> y.deal(3, 5), -1);
        Seen.refused(due, "both have one", y -> y.deal(1, 5), -1);
        due.is("no roads", new RoadDeals().deal(0, 5), -1);
        RoadDeals x = Due.with(THREE);
        x.worth(0, -1);
        due.is("closed", x.deal(0, 5), -1);
        due.is("none", x.has(6), 0);
        x.worth(0, 0);
        due.is("open with 0", x.deal(0, 5), 1);
        due.is("second has less than nothing", x.share(1), -5);
    }

    /** "what the first of the two has (-1000000 .. 1000000)" */
    private void dealsAtTheLimits() {
        RoadDeals x = Due.with(THREE);
        int[] can = {-1000000, 1000000, -999999, 999999, -1, 0, 1};
        for (int first : can) {
            due.is("deal " + first, x.deal(0, first), 1);
            due.is("share", x.share(0), first);
            due.is("share", x.share(1), 10 - first);
        }
        x.deal(0, 1000000);
        x.worth(0, 100000);
        due.is("the second one's", x.share(1), -900000);
        x.deal(0, -1000000);
        due.is("the second one's", x.share(1), 1100000);
        due.is("lone", x.breaks(), 100);
    }

    /** The first or the second of the two, on a ROAD ahead or behind; "(On a ROAD that has one it is in place of it.)" */
    private void oneOfTheTwoHasOne() {
        RoadDeals x = Due.with(AB + "who e alone 0;road a b worth 10;road b c worth 10;road c d worth 10;"
                + "road d e worth 10;road e b worth 10;");
        due.is("b c", x.deal(1, 5), 1);
        due.is("b is the second", x.deal(0, 5), -1);
        due.is("c is the first", x.deal(2, 5), -1);
        due.is("b is the second", x.deal(4, 5), -1);
        due.is("neither of the two", x.deal(3, 5), 2);
        due.is("in place of it", x.deal(1, 7), 2);
        due.is("in place of it", x.deal(3, -7), 2);
        due.is("share", x.share(1), 7);
        due.is("share", x.share(3), -7);
        // One on a ROAD that is not OPEN now is told still.
        x.worth(1, -1);
        due.is("b is the second", x.deal(0, 5), -1);
        due.is("in place of it, but not open", x.deal(1, 5), -1);
        due.is("undeal", x.undeal(1), 1);
        due.is("free", x.deal(0, 5), 2);
        x.worth(1, 10);
        due.is("a b is in its place", x.deal(1, 5), -1);
    }

    private static String pairsOfTwelve(String worth) {
        StringBuilder text = new StringBuilder(TextTest.people(12));
        for (int who = 0; who < 12; who += 2) {
            text.append("road ").append(Brute.name(who)).append(' ').append(Brute.name(who + 1)).append(" worth ");
            text.append(worth).append(";");
        }
        return text.toString();
    }

    /** As many as can be: six, of twelve of WHO */
    private void sixDeals() {
        RoadDeals x = Due.with(pairsOfTwelve("30"));
        for (int road = 0; road < 6; road++) {
            due.is("deal", x.deal(road, 3 * road), road + 1);
        }
        due.is("deals", x.has(6), 6);
        for (int road = 0; road < 6; road++) {
            due.is("share", x.share(2 * road), 3 * road);
            due.is("share", x.share(2 * road + 1), 30 - 3 * road);
        }
        due.is("nobody turns away", x.breaks(), -1);
        due.is("sure", x.surely(), 2);
        due.is("gift", x.gift(), 0);
        due.is("uneven", x.uneven(), 0);
        due.is("image", x.image(), 3 + 6 * 5 + 2);
        due.is("haggle", x.haggle(5), 2);
        for (int who = 0; who < 12; who++) {
            due.is("share", x.share(who), 15);
        }
        due.is("even", x.uneven(), -1);
        x.deal(5, 0);
        due.is("the last one is not", x.uneven(), 5);
        for (int road = 5; road >= 0; road--) {
            due.is("undeal", x.undeal(road), road);
        }
    }

    /** "A DEAL goes: how many are left; NONE if there is none." */
    private void undeals() {
        for (int road : NO_ROADS) {
            Seen.refused(due, "undeal " + road, y -> y.undeal(road), -1);
        }
        Seen.refused(due, "undeal of none", y -> y.undeal(1), -1);
        Seen.refused(due, "undeal of none", y -> y.undeal(3), -1);
        due.is("no roads", new RoadDeals().undeal(0), -1);
        RoadDeals x = Due.with(THREE);
        due.is("none", x.undeal(0), -1);
        x.deal(0, 5);
        x.deal(2, 5);
        due.is("one is left", x.undeal(0), 1);
        due.is("it has none", x.undeal(0), -1);
        due.is("none is left", x.undeal(2), 0);
        due.is("it has none", x.undeal(2), -1);
        due.is("alone", x.share(2), 0);
        x.deal(1, 5);
        x.day(5);
        due.is("not open, but told", x.undeal(1), 0);
    }

    /** "in place of all: each first one has what is alone and floor(GAIN / 2): how many DEALS" */
    private void rowsDealt() {
        for (int gain = 0; gain < 6; gain++) {
            RoadDeals x = Due.with("who a alone 3;who b alone 4;road b a worth " + (7 + gain) + ";");
            due.is("dealRow", x.dealRow(), gain > 0 ? 1 : 0);
            due.is("first", x.share(1), 4 + gain / 2);
            due.is("second", x.share(0), 3 + gain - gain / 2);
        }
        RoadDeals x = Due.with(THREE);
        x.deal(1, 5);
        x.day(5);
        due.is("one not open is told", x.has(6), 1);
        due.is("in place of it, too", x.dealRow(), 2);
        x.day(0);
        due.is("told", x.has(6), 2);
        due.is("it went", x.undeal(1), -1);
        x.worth(0, -1);
        x.worth(1, -1);
        x.worth(2, -1);
        due.is("no row", x.dealRow(), 0);
        due.is("all went", x.has(6), 0);
        due.is("nobody", new RoadDeals().dealRow(), 0);
        x = Due.with("who a alone 0;who b alone 0;road a b worth 9999*11;taste a b 9999;taste b a 9999;");
        due.is("dealRow", x.dealRow(), 1);
        due.is("far", x.share(0), 59999);
    }

    /** "-2000000000 if there is none such" */
    private void sharesRefused() {
        for (int who : NOBODIES) {
            Seen.refused(due, "share " + who, y -> y.share(who), Due.NO_NUMBER);
        }
        due.is("nobody", new RoadDeals().share(0), Due.NO_NUMBER);
        RoadDeals x = Due.with(pairsOfTwelve("30"));
        x.deal(5, 31);
        due.is("the twelfth", x.share(11), -1);
        due.is("a thirteenth", x.share(12), Due.NO_NUMBER);
    }

    /** "A ROAD that is not OPEN now has no DEAL now: both have what is alone, like all that have none." */
    private void sharesNotOpen() {
        RoadDeals x = Due.with("who a alone 3;who b alone 4;road a b worth 10 when day<5;taste a b 2;");
        due.is("alone", x.share(0), 3);
        x.deal(0, 1);
        due.is("first", x.share(0), 1);
        due.is("second", x.share(1), 11);
        due.is("lone", x.breaks(), 100);
        x.day(5);
        due.is("alone", x.share(0), 3);
        due.is("alone", x.share(1), 4);
        due.is("no taste", x.money(0), 3);
        due.is("holds", x.breaks(), -1);
        due.is("sure", x.surely(), 2);
        due.is("nobody to turn to", x.other(0, true), -1);
        due.is("even", x.uneven(), -1);
        due.is("no gift", x.gift(), 0);
        due.is("rests", x.haggle(3), 1);
        x.day(4);
        due.is("what was told", x.share(0), 1);
        x.worth(0, 0);
        due.is("less is made", x.share(1), 1);
    }

    /** "what is alone without a DEAL; -2000000000 if there is none such" */
    private void moneyRefused() {
        for (int who : NOBODIES) {
            Seen.refused(due, "money " + who, y -> y.money(who), Due.NO_NUMBER);
        }
        due.is("nobody", new RoadDeals().money(0), Due.NO_NUMBER);
        RoadDeals x = Due.with("who a alone 3;who b alone 4;road a b worth 10;taste a b 9999;taste b a less 9999;");
        due.is("without", x.money(0), 3);
        due.is("without", x.money(1), 4);
        x.deal(0, -1000000);
        due.is("less the taste", x.money(0), -1009999);
        due.is("and what it is less", x.money(1), 1010009);
        x.deal(0, 9999);
        due.is("just the taste", x.money(0), 0);
        due.is("all the money", x.money(1), 10);
    }

    /** "-2000000000 if there is none such" */
    private void othersRefused() {
        for (int who : NOBODIES) {
            Seen.refused(due, "else of " + who, y -> y.other(who, false), Due.NO_NUMBER);
            Seen.refused(due, "to of " + who, y -> y.other(who, true), Due.NO_NUMBER);
        }
        due.is("nobody", new RoadDeals().other(0, false), Due.NO_NUMBER);
        due.is("nobody", new RoadDeals().other(0, true), Due.NO_NUMBER);
    }

    /** "the first of WHO (NONE: alone is as good)" */
    private void aloneIsAsGood() {
        for (int worth = 0; worth < 12; worth++) {
            RoadDeals x = Due.with("who a alone 3;who b alone 4;road a b worth " + worth + ";");
            boolean better = worth > 7;
            due.is("else of a with " + worth, x.other(0, false), better ? worth - 4 : 3);
            due.is("a turns to", x.other(0, true), better ? 1 : -1);
            due.is("else of b with " + worth, x.other(1, false), better ? worth - 3 : 4);
            due.is("b turns to", x.other(1, true), better ? 0 : -1);
            // But that of their DEAL.
            x.deal(0, 5);
            due.is("else of a", x.other(0, false), 3);
            due.is("a turns to", x.other(0, true), -1);
        }
        // Two as good: the first of WHO, whichever of their ROADS is ahead.
        RoadDeals x = Due.with(AB + "road d c worth 5;road d b worth 5;road a d worth 5;");
        due.is("the first", x.other(3, true), 0);
        x.worth(2, 4);
        due.is("the first", x.other(3, true), 1);
        x.worth(0, 6);
        due.is("a better one", x.other(3, true), 2);
        due.is("else", x.other(3, false), 6);
        x.deal(0, 3);
        due.is("but that of the deal", x.other(3, true), 1);
        due.is("else", x.other(3, false), 5);
        // One who owes is worth more.
        x = Due.with(AB + "road a b worth 0;road b c worth 5;");
        x.deal(0, 1000000);
        due.is("what b lacks", x.other(2, false), 1000005);
        due.is("to b", x.other(2, true), 1);
    }

    /** "NONE if there is none such" */
    private void chainsRefused() {
        for (int who : NOBODIES) {
            Seen.refused(due, "chain " + who + ", 0", y -> y.chain(who, 0), -1);
            Seen.refused(due, "chain " + who + ", 1", y -> y.chain(who, 1), -1);
        }
        for (int k : new int[] {-1, -2, 4, 5, 12, 13, Integer.MAX_VALUE, Integer.MIN_VALUE}) {
            Seen.refused(due, "chain 0, " + k, y -> y.chain(0, k), -1);
            Seen.refused(due, "chain 1, " + k, y -> y.chain(1, k), -1);
        }
        due.is("nobody", new RoadDeals().chain(0, 0), -1);
    }

    /** "up to one that turns to nobody, or to one that is in it already" */
    private void chainsToTheirEnd() {
        chain(AB, 0);
        chain(AB + "road a b worth 0;", 0);
        chain(AB + "road a b worth 1;", 0, 1);
        // To the one ahead, to the first one, to one in the middle.
        chain(AB + "road a b worth 1;road b c worth 2;", 0, 1, 2);
        chain(AB + "road a b worth 3;road b c worth 4;road c a worth 5;", 0, 2);
        chain(AB + "road a b worth 1;road b c worth 2;road c d worth 3;", 0, 1, 2, 3);
        chain(AB + "road a b worth 1;road b c worth 2;road c d worth 3;road b d worth 4;", 0, 1, 3);
        // To one who turns to nobody: d's only road is that of the deal.
        RoadDeals x = Due.with(AB + "road c d worth 5;road a d worth 9;");
        x.deal(0, 3);
        due.is("a", x.chain(0, 0), 0);
        due.is("to d", x.chain(0, 1), 3);
        due.is("d to a", x.chain(0, 2), -1);
        x.worth(1, 2);
        due.is("alone is as good", x.chain(0, 1), -1);
        // All twelve.
        StringBuilder text = new StringBuilder(TextTest.people(12));
        for (int who = 0; who < 11; who++) {
            text.append("road ").append(Brute.name(who)).append(' ').append(Brute.name(who + 1)).append(" worth ");
            text.append(who + 1).append(';');
        }
        chain(text.toString(), 0, 1, 2, 3, 4, 5, 6, 7, 8, 9, 10, 11);
        x = Due.with(text.toString());
        due.is("of the last one", x.chain(11, 0), 11);
        due.is("to the one ahead", x.chain(11, 1), 10);
        due.is("to the last one again", x.chain(11, 2), -1);
    }

    private void chain(String text, int... chain) {
        RoadDeals x = Due.with(text);
        for (int k = 0; k < chain.length; k++) {
            due.is("chain of " + text, x.chain(0, k), chain[k]);
        }
        due.is("its end of " + text, x.chain(0, chain.length), -1);
        due.is("behind it", x.chain(0, chain.length + 1), -1);
        due.is("far", x.chain(0, Integer.MAX_VALUE), -1);
    }

    /** "100 and the number of the first LONE one, if there is one (ahead of ROADS); NONE if they HOLD" */
    private void breaksAtTheLimits() {
        due.is("nobody", new RoadDeals().breaks(), -1);
        RoadDeals x = Due.with("who a alone 3;who b alone 4;who c alone 5;road a b worth 10;road b c worth 12;");
        due.is("the first road", x.breaks(), 0);
        x.deal(0, 3);
        due.is("7 and 5 are 12", x.breaks(), -1);
        x.deal(0, 4);
        due.is("6 and 5 are 11", x.breaks(), 1);
        x.deal(0, 6);
        due.is("as much as alone", x.breaks(), 1);
        x.deal(0, 7);
        due.is("b is lone, ahead of roads", x.breaks(), 101);
        x.deal(0, 2);
        due.is("a is lone", x.breaks(), 100);
        x.worth(0, 5);
        x.deal(0, 2);
        due.is("both are", x.breaks(), 100);
        x = Due.with(pairsOfTwelve("30"));
        for (int road = 0; road < 6; road++) {
            x.deal(road, road < 5 ? 0 : 31);
        }
        due.is("the twelfth", x.breaks(), 111);
        x.deal(5, -1);
        due.is("the eleventh", x.breaks(), 110);
        x.deal(5, 0);
        due.is("nobody", x.breaks(), -1);
        x.undeal(5);
        due.is("the last road", x.breaks(), 5);
        // The thirtieth.
        x = Due.with(TextTest.people(12) + TextTest.pairs("road", " worth 0", 29, true) + "road k l worth 1;");
        due.is("the thirtieth", x.breaks(), 29);
        x.worth(29, 0);
        due.is("just holds", x.breaks(), -1);
    }

    /** "The least set, as a number, that BREAKS AWAY; 0 without."; "together more than they have" */
    private void awayAtTheLimits() {
        due.is("nobody", new RoadDeals().away(), 0);
        RoadDeals x = Due.with(pairsOfTwelve("30"));
        due.is("the first two", x.away(), 3);
        for (int road = 0; road < 5; road++) {
            x.deal(road, 30);
        }
        due.is("the last two", x.away(), 3072);
        x.deal(5, 30);
        due.is("as much is not more", x.away(), 0);
        x.deal(5, 31);
        due.is("the last one", x.away(), 2048);
        x.deal(0, 31);
        due.is("the second one", x.away(), 2);
        x.deal(0, -1);
        due.is("the first one", x.away(), 1);
        // Four together, though no two of them, and no three.
        x = Due.with(AB + "who e alone 0;road a b worth 4;road c d worth 4;road d e worth 4;");
        x.deal(0, 2);
        due.is("of two, one in it", x.away(), 12);
        x.deal(1, 4);
        due.is("d and e", x.away(), 24);
        x.deal(1, 0);
        due.is("nobody", x.away(), 0);
    }

    /** "The first DEAL's ROAD that is not EVEN; NONE without."; "floor(LEFT / 2)", also below 0 */
    private void unevenOnes() {
        due.is("nobody", new RoadDeals().uneven(), -1);
        due.is("no deals", Due.with(THREE).uneven(), -1);
        for (int worth = 0; worth < 16; worth++) {
            RoadDeals x = Due.with("who a alone 3;who b alone 4;road a b worth " + worth + ";");
            int even = 3 + Math.floorDiv(worth - 7, 2);
            for (int first = even - 2; first < even + 3; first++) {
                due.is("deal", x.deal(0, first), 1);
                due.is("uneven " + first + " of " + worth, x.uneven(), first == even ? -1 : 0);
            }
            due.is("a turn", x.haggle(2), 2);
            due.is("is made even", x.share(0), even);
        }
        RoadDeals x = Due.with(THREE);
        x.deal(0, 9);
        x.deal(2, 9);
        due.is("the first", x.uneven(), 0);
        x.worth(0, -1);
        due.is("not open now", x.uneven(), 2);
    }

    /** "so many ROUNDS at most (1 .. 1000)"; "NONE if it can't be" */
    private void hagglesRefused() {
        for (int rounds : new int[] {0, -1, -2, 1001, 1002, 65537, Integer.MAX_VALUE, Integer.MIN_VALUE}) {
            Seen.refused(due, "haggle " + rounds, y -> y.haggle(rounds), -1);
        }
        RoadDeals x = new RoadDeals();
        due.is("one too many", x.haggle(1001), -1);
        due.is("none", x.haggle(0), -1);
        due.is("without one", x.ended(), -1);
        due.is("of nobody", x.haggle(1000), 1);
        due.is("rests", x.ended(), 0);
        due.is("of nobody", x.haggle(1), 1);
    }

    /**
     * Two DEALS in a ring of four ROADS: LEFT is odd, so that each ROUND takes one from both first ones, down to
     * what is alone.
     */
    private static RoadDeals sinking(int from, String before, int deals) {
        RoadDeals x = Due.with(before + "road w x worth 5000;road y z worth 5001;road x y worth 5000;road w z worth 5000;");
        x.deal(deals, from);
        x.deal(deals + 1, from);
        return x;
    }

    private static final String FOUR = "who w alone 0;who x alone 0;who y alone 0;who z alone 0;";

    /** "how many were gone till they REST ... (the last one, that changes nothing ..., too); -2 - ROUNDS if they neither" */
    private void restsAtTheLimit() {
        for (int from = 1; from < 6; from++) {
            for (int rounds = 1; rounds < 9; rounds++) {
                RoadDeals x = sinking(from, FOUR, 0);
                boolean rests = rounds > from;
                due.is("haggle " + rounds + " from " + from, x.haggle(rounds), rests ? from + 1 : -2 - rounds);
                due.is("ended", x.ended(), rests ? 0 : 2);
                due.is("the deals as they have come to be", x.share(2), Math.max(0, from - rounds));
            }
        }
        RoadDeals x = sinking(999, FOUR, 0);
        due.is("just rests", x.haggle(1000), 1000);
        due.is("ended", x.ended(), 0);
        x = sinking(999, FOUR, 0);
        due.is("just not", x.haggle(999), -1001);
        due.is("ended", x.ended(), 2);
        due.is("at rest, but it was not gone", x.share(2), 0);
        due.is("one more changes nothing", x.haggle(1), 1);
        due.is("ended", x.ended(), 0);
        x = sinking(1000, FOUR, 0);
        due.is("just not", x.haggle(1000), -1002);
        due.is("ended", x.ended(), 2);
        due.is("share", x.share(2), 0);
        x = sinking(4999, FOUR, 0);
        for (int n = 1; n < 5; n++) {
            due.is("on and on", x.haggle(1000), -1002);
            due.is("ended", x.ended(), 2);
            due.is("share", x.share(2), 4999 - 1000 * n);
        }
        due.is("to rest", x.haggle(1000), 1000);
        due.is("rests at once", x.haggle(1000), 1);
    }

    /** "till they ... RING (the last one, that ... closes the ring, too)"; "as they were behind an earlier ROUND (or at first)" */
    private void ringsAtTheLimit() {
        // Four DEALS that go round without end; they come into the ring in their first ROUND.
        String ring = "who a alone 1;who b alone 0;who c alone 1;who d alone 2;who e alone 0;who f alone 1;who g alone 1;"
                + "who h alone 3;road a b worth 9;road c d worth 9;road e f worth 9;road g h worth 9;road a h worth 9;"
                + "road b c worth 9;road b e worth 1;road d g worth 9;";
        RoadDeals x = Due.with(ring);
        int[] from = {3, 2, 11, -3};
        for (int road = 0; road < 4; road++) {
            x.deal(road, from[road]);
        }
        due.is("not yet", x.haggle(3), -5);
        due.is("ended", x.ended(), 2);
        // Those three were within the ring, which is as they are at first now.
        int gone = x.haggle(1000);
        due.is("rings", x.ended(), 1);
        int[] shares = shares(x);
        due.is("just closes it", x.haggle(gone), gone);
        due.is("rings", x.ended(), 1);
        due.is("as at first", Arrays.equals(shares(x), shares), true);
        due.is("one less does not", x.haggle(gone - 1), -1 - gone);
        due.is("ended", x.ended(), 2);
        due.is("not as at first", Arrays.equals(shares(x), shares), false);
        due.is("again", x.haggle(1), -3);
        due.is("as at first", Arrays.equals(shares(x), shares), true);
    }

    private static int[] shares(RoadDeals x) {
        int[] shares = new int[x.has(0)];
        for (int who = 0; who < shares.length; who++) {
            shares[who] = x.share(who);
        }
        return shares;
    }

    /** As many DEALS and as many ROUNDS as can be */
    private void sixDealsAThousandRounds() {
        StringBuilder text = new StringBuilder(TextTest.people(8)).append(FOUR);
        for (int who = 0; who < 8; who += 2) {
            text.append("road ").append(Brute.name(who)).append(' ').append(Brute.name(who + 1)).append(" worth 9;");
        }
        for (int from : new int[] {999, 1000, 4999}) {
            RoadDeals x = sinking(from, text.toString(), 4);
            for (int road = 0; road < 4; road++) {
                x.deal(road, 8 - road);
            }
            due.is("six deals", x.has(6), 6);
            due.is("haggle", x.haggle(1000), from == 999 ? 1000 : -1002);
            due.is("the first", x.share(0), 4);
            due.is("the last", x.share(10), Math.max(0, from - 1000));
            due.is("uneven", x.uneven(), from == 4999 ? 4 : -1);
        }
    }

    /** "How the latest haggle() that was not NONE ended ...; NONE without one." */
    private void endedWithoutOne() {
        RoadDeals x = Due.with(THREE);
        due.is("without one", x.ended(), -1);
        due.is("refused", x.haggle(1001), -1);
        due.is("without one", x.ended(), -1);
        due.is("without deals", x.haggle(1), 1);
        due.is("rests", x.ended(), 0);
        x.deal(0, 9);
        due.is("one round", x.haggle(1), -3);
        due.is("neither", x.ended(), 2);
        due.is("refused", x.haggle(0), -1);
        due.is("neither still", x.ended(), 2);
        x.undeal(0);
        x.day(7);
        due.is("neither still", x.ended(), 2);
        due.is("text", Due.told(x, ""), 0);
        due.is("neither still", x.ended(), 2);
        due.is("rests", x.haggle(1000), 1);
        due.is("rests", x.ended(), 0);
    }

    /** "Twice the least GIFT.": 0 if all hold; halves of it; as much as can be */
    private void giftsAtTheLimits() {
        due.is("nobody", new RoadDeals().gift(), 0);
        due.is("no roads", Due.with(AB).gift(), 0);
        RoadDeals x = Due.with("who a alone 3;who b alone 4;road a b worth 7;");
        due.is("just holds", x.gift(), 0);
        x.worth(0, 8);
        due.is("one lacks", x.gift(), 2);
        x.deal(0, 4);
        due.is("dealt", x.gift(), 0);
        x.deal(0, 5);
        due.is("b is lone by one", x.gift(), 2);
        x.deal(0, 2);
        due.is("a is lone by one", x.gift(), 2);
        x.deal(0, 1000000);
        due.is("b is lone by far", x.gift(), 2 * (4 - 8 + 1000000));
        x.deal(0, -1000000);
        due.is("a is lone by far", x.gift(), 2 * 1000003);
        x = Due.with(AB + "road a b worth 1;road b c worth 1;road c a worth 1;");
        due.is("a half to each", x.gift(), 3);
        StringBuilder text = new StringBuilder();
        for (int who = 0; who < 12; who++) {
            text.append("who ").append(Brute.name(who)).append(" alone 9999;");
        }
        for (int who = 0; who < 12; who += 2) {
            text.append("road ").append(Brute.name(who)).append(' ').append(Brute.name(who + 1)).append(" worth 0;");
        }
        x = Due.with(text.toString());
        for (int road = 0; road < 6; road++) {
            x.deal(road, -1000000);
        }
        due.is("six that lack most", x.gift(), 2 * 6 * 1009999);
    }

    /** "2 if the DEALS HOLD SURELY, 1 if MAYBE, 0 else": less than is MADE and DOUBT, less than that with DOUBT taken off */
    private void sureAtTheLimits() {
        due.is("nobody", new RoadDeals().surely(), 2);
        String text = AB + "road a b worth 10;road b c worth 10;doubt b c 3;doubt b a 9;";
        for (int first = 0; first < 11; first++) {
            RoadDeals x = Due.with(text);
            x.worth(1, 5);
            x.deal(0, first);
            // b has 10 less that: 8 is what is made and the doubt, 2 what is made without it.
            int has = 10 - first;
            due.is("b has " + has, x.surely(), has >= 8 ? 2 : has >= 2 ? 1 : 0);
            x.worth(1, -1);
            due.is("the doubt of a deal does not count", x.surely(), 2);
        }
        RoadDeals x = Due.with(text);
        x.deal(0, 11);
        due.is("b is lone", x.surely(), 0);
        x.worth(1, -1);
        due.is("b is lone, whatever the roads", x.surely(), 0);
        x.deal(0, -1);
        due.is("a is lone", x.surely(), 0);
        x = Due.with(AB + "road a b worth 0;doubt a b 1;");
        due.is("nothing is made, in doubt", x.surely(), 1);
        x = Due.with(AB + "road a b worth 0;doubt a b 0;");
        due.is("no doubt", x.surely(), 2);
        x = Due.with(AB + "road a b worth 9999;doubt a b 9999;");
        due.is("all is in doubt", x.surely(), 1);
        x = Due.with(AB + "road a b worth 9999;doubt a b 9998;");
        due.is("not all is", x.surely(), 0);
    }

    /** "AN IMAGE is written: how many bytes.": 5 without ROADS, 59 with 30 of them and six DEALS */
    private void imagesAtTheLimits() {
        RoadDeals x = new RoadDeals();
        image(x, "\u0000\u0000\u0000");
        x.day(255);
        image(x, "\u0000\u0000\u00ff");
        x.day(256);
        image(x, "\u0000\u0001\u0000");
        x.day(999);
        image(x, "\u0000\u0003\u00e7");
        x = Due.with(THREE);
        int[] firsts = {1000000, -1000000, -1, 0, 1, 255, 256, -256, 65535, 65536};
        String[] bytes = {"\u0000\u000f\u0042\u0040", "\u00ff\u00f0\u00bd\u00c0", "\u00ff\u00ff\u00ff\u00ff",
            "\u0000\u0000\u0000\u0000", "\u0000\u0000\u0000\u0001", "\u0000\u0000\u0000\u00ff",
            "\u0000\u0000\u0001\u0000", "\u00ff\u00ff\u00ff\u0000", "\u0000\u0000\u00ff\u00ff",
            "\u0000\u0001\u0000\u0000"};
        for (int k = 0; k < firsts.length; k++) {
            x.deal(1, firsts[k]);
            image(x, "\u0003\u0000\u0000\u00ff\u0001" + bytes[k] + "\u00ff");
        }
        image(asManyAsCanBe(), "\u001e\u0000\u0000" + ("\u0001\u0000\u0000\u0000\u0007").repeat(6) + "\u00ff".repeat(24));
    }

    /** 30 ROADS, and a DEAL on each of the first six */
    private static RoadDeals asManyAsCanBe() {
        StringBuilder text = new StringBuilder(pairsOfTwelve("30"));
        int roads = 6;
        for (int one = 0; one < 12; one++) {
            for (int other = one + 2; other < 12 && roads < 30; other++) {
                text.append("road ").append(Brute.name(one)).append(' ').append(Brute.name(other)).append(" worth 1;");
                roads++;
            }
        }
        RoadDeals x = Due.with(text.toString());
        for (int road = 0; road < 6; road++) {
            x.deal(road, 7);
        }
        return x;
    }

    private void image(RoadDeals x, String bytes) {
        byte[] want = Model.checked(bytes);
        due.is("image", x.image(), want.length);
        for (int k = 0; k < want.length; k++) {
            due.is("octet " + k, x.octet(k), want[k] & 255);
        }
        due.is("behind it", x.octet(want.length), -1);
    }

    /** "Byte k of the latest image(); NONE if there is none such." */
    private void octets() {
        RoadDeals x = new RoadDeals();
        for (int k : new int[] {0, -1, 1, 4, 5, Integer.MAX_VALUE, Integer.MIN_VALUE}) {
            due.is("without an image", x.octet(k), -1);
        }
        due.is("image", x.image(), 5);
        for (int k : new int[] {-1, -2, 5, 6, 58, 59, 60, Integer.MAX_VALUE, Integer.MIN_VALUE}) {
            due.is("octet " + k, x.octet(k), -1);
            // The full object's image has 17 bytes.
            int other = k == 5 || k == 6 ? k + 12 : k;
            Seen.refused(due, "octet " + other, y -> y.octet(other), -1);
        }
        due.is("the first", x.octet(0), 0);
        due.is("the last", x.octet(4), 95);
        x.day(5);
        due.is("text", Due.told(x, THREE), 7);
        due.is("the latest one stays", x.octet(0), 0);
        due.is("the latest one stays", x.octet(2), 0);
        due.is("the latest one stays", x.octet(5), -1);
        due.is("image", x.image(), 8);
        due.is("another one", x.octet(0), 3);
        due.is("another one", x.octet(2), 5);
        due.is("its last", x.octet(7) >= 0, true);
        due.is("text", Due.told(x, ""), 0);
        due.is("image", x.image(), 5);
        due.is("nothing of the longer one", x.octet(5), -1);
        due.is("nothing of the longer one", x.octet(7), -1);
    }

    private boolean on(RoadDeals x, byte[] bytes) {
        x.end(0);
        Due.feed(x, bytes);
        boolean taken = x.on();
        due.is("the tape goes, refused or not", x.end(1), false);
        return taken;
    }

    private boolean on(RoadDeals x, String bytes) {
        return on(x, Model.checked(bytes));
    }

    /** "true, the DAY and the DEALS are as it tells", at the limits of what it may tell, "whether the ROADS are OPEN or not" */
    private void imagesTaken() {
        RoadDeals x = new RoadDeals();
        due.is("of nobody", on(x, "\u0000\u0000\u0000"), true);
        due.is("of nobody, day 999", on(x, "\u0000\u0003\u00e7"), true);
        due.is("day", x.has(7), 999);
        x = Due.with(THREE);
        x.deal(0, 5);
        due.is("no deals", on(x, "\u0003\u0003\u00e7\u00ff\u00ff\u00ff"), true);
        due.is("none", x.has(6), 0);
        due.is("day", x.has(7), 999);
        due.is("not open", on(x, "\u0003\u0000\u0005\u00ff\u0001\u0000\u0000\u0000\u0007\u00ff"), true);
        due.is("told", x.has(6), 1);
        due.is("none now", x.share(2), 0);
        due.is("day 4", on(x, "\u0003\u0000\u0004\u00ff\u0001\u0000\u0000\u0000\u0007\u00ff"), true);
        due.is("now", x.share(2), 7);
        due.is("most", on(x, "\u0003\u0000\u0000\u00ff\u0001\u0000\u000f\u0042\u0040\u00ff"), true);
        due.is("share", x.share(2), 1000000);
        due.is("least", on(x, "\u0003\u0000\u0000\u00ff\u0001\u00ff\u00f0\u00bd\u00c0\u00ff"), true);
        due.is("share", x.share(2), -1000000);
        due.is("minus one", on(x, "\u0003\u0000\u0000\u0001\u00ff\u00ff\u00ff\u00ff\u00ff\u0001\u0000\u0000\u0000\u0000"), true);
        due.is("share", x.share(0), -1);
        due.is("deals", x.has(6), 2);
        // As many as can be, with something around it changed.
        x = asManyAsCanBe();
        due.is("image", x.image(), 59);
        byte[] bytes = new byte[59];
        for (int k = 0; k < 59; k++) {
            bytes[k] = (byte) x.octet(k);
        }
        x.day(77);
        for (int road = 0; road < 6; road++) {
            x.undeal(road);
        }
        due.is("on", on(x, bytes), true);
        due.is("six deals", x.has(6), 6);
        due.is("day", x.has(7), 0);
        due.is("the last one", x.share(10), 7);
        x = asManyAsCanBe();
        due.is("each of its bytes counts", onWithEachChanged(x, bytes), 0);
    }

    /** How often it is taken with one byte another. */
    private int onWithEachChanged(RoadDeals x, byte[] bytes) {
        int taken = 0;
        for (int k = 0; k < bytes.length; k++) {
            byte[] other = bytes.clone();
            other[k]++;
            taken += on(x, other) ? 1 : 0;
        }
        return taken;
    }

    /** "false if it is none (all stays)": of the full object's 4 ROADS, a bb and c bb, c d and d a */
    private void imagesRefused() {
        String none = "\u00ff";
        String deal = "\u0001\u0000\u0000\u0000\u0007";
        String start = "\u0004\u0000\u0009";
        refused("too few roads", "\u0003\u0000\u0009" + none.repeat(3));
        refused("too few roads told", "\u0003\u0000\u0009" + none.repeat(4));
        refused("too many roads", "\u0005\u0000\u0009" + none.repeat(5));
        refused("too many roads told", "\u0005\u0000\u0009" + none.repeat(4));
        refused("no roads", "\u0000\u0000\u0009");
        refused("a road is missing", start + none.repeat(3));
        refused("a road too many", start + none.repeat(5));
        refused("all roads are missing", start);
        refused("the day is 1000", "\u0004\u0003\u00e8" + none.repeat(4));
        refused("the day is 32768", "\u0004\u0080\u0000" + none.repeat(4));
        refused("the day is 65535", "\u0004\u00ff\u00ff" + none.repeat(4));
        refused("two deals at bb", start + deal + deal + none + none);
        refused("two deals at c", start + none + deal + deal + none);
        refused("two deals at d", start + none + none + deal + deal);
        refused("two deals at a", start + deal + none + none + deal);
        refused("1000001", start + "\u0001\u0000\u000f\u0042\u0041" + none.repeat(3));
        refused("-1000001", start + "\u0001\u00ff\u00f0\u00bd\u00bf" + none.repeat(3));
        refused("the greatest number", start + "\u0001\u007f\u00ff\u00ff\u00ff" + none.repeat(3));
        refused("the least number", start + "\u0001\u0080\u0000\u0000\u0000" + none.repeat(3));
        refused("a deal cut", start + none.repeat(3) + "\u0001\u0000\u0000\u0000");
        refused("a deal without a number", start + none.repeat(3) + "\u0001");
        for (char it = 0; it < 256; it++) {
            if (it != 1 && it != 255) {
                refused("neither 1 nor 255", start + it + none.repeat(3));
                refused("neither 1 nor 255", start + none.repeat(3) + it);
                refused("neither 1 nor 255", start + it + "\u0000\u0000\u0000\u0007" + none.repeat(3));
            }
        }
        byte[] good = Model.checked(start + none + deal + none + deal);
        for (int k = 0; k < good.length; k++) {
            byte[] other = good.clone();
            other[k] ^= 1 << k % 8;
            refused("byte " + k + " another", other);
            refused("cut to " + k, Arrays.copyOf(good, k));
        }
        refused("one more", Arrays.copyOf(good, good.length + 1));
        refused("a blank more", Model.checked(start + none + deal + none + deal + " "));
        refused("the check's bytes turned", turned(good));
        refused("a text", "who a alone 5;".getBytes());
        refused("a full tape", new byte[900]);
        RoadDeals x = Seen.full();
        due.is("with nothing of these", on(x, good), true);
        due.is("day", x.has(7), 9);
    }

    private static byte[] turned(byte[] bytes) {
        byte[] other = bytes.clone();
        other[bytes.length - 1] = bytes[bytes.length - 2];
        other[bytes.length - 2] = bytes[bytes.length - 1];
        return other;
    }

    private void refused(String why, String bytes) {
        refused(why, Model.checked(bytes));
    }

    private void refused(String why, byte[] bytes) {
        RoadDeals x = Seen.full();
        int[] before = Seen.of(x);
        due.is("on: " + why, on(x, bytes), false);
        due.is("all stays: " + why, Arrays.equals(Seen.of(x), before), true);
        due.is("the fault stays", x.fault(1), 17);
    }

    private void anEmptyTapeIsNoImage() {
        RoadDeals x = new RoadDeals();
        due.is("empty", x.on(), false);
        x.image();
        due.is("the image is not on the tape", x.on(), false);
        x.day(5);
        due.is("empty", x.on(), false);
        due.is("the day stays", x.has(7), 5);
    }
}
