/**
 * Promises 9 to 22 and part II of the terms: each sentence that names a limit, what is empty or full, or a refused
 * call has a test of its own, which stands under its words.
 */
public final class NetBoundsTest {
    private static final int[] NO_ROADS = {-1, 4, 5, 30, 31, -2, Integer.MAX_VALUE, Integer.MIN_VALUE};
    private static final int[] NOBODIES = {-1, 4, 5, 12, 13, -2, Integer.MAX_VALUE, Integer.MIN_VALUE};
    private static final String AB = "who a alone 0;who b alone 0;who c alone 0;who d alone 0;";

    private final Due due = new Due("NetBoundsTest");

    public static void main(String[] args) {
        NetBoundsTest test = new NetBoundsTest();
        test.days();
        test.worths();
        test.worthsRefused();
        test.twoHundredActs();
        test.annulsRefused();
        test.annulsAtTheLimit();
        test.knownActs();
        test.countsInPlaceOfBoth();
        test.madeRefused();
        test.gainsAboveNothing();
        test.nothingToMake();
        test.theMostAndHalves();
        test.rows();
        test.theFirstRow();
        test.sixInARow();
        test.endsRefused();
        test.endsAndHalves();
        test.sets();
        test.movesRefused();
        test.movesAtTheLimits();
        test.paysRefused();
        test.paysWithoutEnds();
        test.twosRefused();
        test.prices();
        test.waysToMakeIt();
        test.manyWays();
        test.asManyAsCanBe();
        test.due.end();
    }

    /** "The DAY: true; false if it can't be.", 0 .. 999 */
    private void days() {
        RoadDeals x = Due.with(AB + "road a b worth day;road c d worth week*10+wday;");
        due.is("0 at first", x.has(7), 0);
        for (int day : new int[] {999, 0, 1, 6, 7, 13, 14, 998}) {
            due.is("day " + day, x.day(day), true);
            due.is("has(7)", x.has(7), day);
            due.is("day", x.made(0, 0), day);
            due.is("week and wday", x.made(1, 0), day / 7 * 10 + day % 7);
        }
        for (int day : new int[] {-1, 1000, 1001, -999, 65536, Integer.MAX_VALUE, Integer.MIN_VALUE}) {
            due.is("day " + day, x.day(day), false);
            due.is("the day stays", x.has(7), 998);
            due.is("the day stays", x.made(0, 0), 998);
            Seen.refused(due, "day " + day, y -> Seen.number(y.day(day)), 0);
        }
        x = new RoadDeals();
        due.is("with nobody, too", x.day(999), true);
        due.is("day", x.has(7), 999);
    }

    /** "A ROAD's WORTH becomes n (NONE: it is CLOSED; -2: again by the text): the ACT", 0 .. 100000 */
    private void worths() {
        RoadDeals x = Due.with(AB + "road a b worth 7 when day=0;road c d worth 8;");
        due.is("0", x.worth(0, 0), 1);
        due.is("open with 0", x.made(0, 0), 0);
        due.is("no gain", x.made(0, 1), 0);
        due.is("1", x.worth(0, 1), 2);
        due.is("made", x.made(0, 0), 1);
        due.is("100000", x.worth(0, 100000), 3);
        due.is("made", x.made(0, 0), 100000);
        due.is("99999", x.worth(0, 99999), 4);
        due.is("made", x.made(0, 0), 99999);
        due.is("closed", x.worth(0, -1), 5);
        due.is("made", x.made(0, 0), Due.NO_NUMBER);
        due.is("by the text", x.worth(0, -2), 6);
        due.is("made", x.made(0, 0), 7);
        x.day(1);
        due.is("by the text it is not open", x.made(0, 0), Due.NO_NUMBER);
        due.is("open by an act", x.worth(0, 3), 7);
        due.is("made", x.made(0, 0), 3);
        due.is("by the text again", x.worth(0, -2), 8);
        due.is("made", x.made(0, 0), Due.NO_NUMBER);
        due.is("the other road stays", x.made(1, 0), 8);
        due.is("the last road", x.worth(1, 5), 9);
        due.is("made", x.made(1, 0), 5);
    }

    /** "NONE if it can't be" */
    private void worthsRefused() {
        for (int road : NO_ROADS) {
            for (int n : new int[] {-2, -1, 0, 5, 100000}) {
                Seen.refused(due, "worth " + road + ", " + n, y -> y.worth(road, n), -1);
            }
        }
        for (int n : new int[] {-3, -4, 100001, 100002, 1000000000, Integer.MAX_VALUE, Integer.MIN_VALUE}) {
            Seen.refused(due, "worth 0, " + n, y -> y.worth(0, n), -1);
            Seen.refused(due, "worth 3, " + n, y -> y.worth(3, n), -1);
        }
        due.is("no roads", new RoadDeals().worth(0, 5), -1);
        due.is("no roads", Due.with(AB).worth(0, 5), -1);
    }

    /** "or there are 200" */
    private void twoHundredActs() {
        RoadDeals x = Due.with(AB + "road a b worth 7;road c d worth 8;");
        for (int n = 1; n <= 200; n++) {
            due.is("act", x.worth(n % 2, n), n);
        }
        due.is("made", x.made(0, 0), 200);
        due.is("a 201st", x.worth(0, 1), -1);
        due.is("a 201st", x.worth(0, -1), -1);
        due.is("a 201st", x.worth(0, -2), -1);
        due.is("a 201st that is void", x.annul(200), -1);
        due.is("a 201st that is void", x.annul(1), -1);
        due.is("200 acts", x.has(4), 200);
        due.is("as the last one", x.has(5), 200);
        due.is("all stays", x.made(0, 0), 200);
        due.is("all stays", x.made(1, 0), 199);
        due.is("as(201)", x.as(201), false);
        due.is("as(200)", x.as(200), true);
        due.is("as(198)", x.as(198), true);
        due.is("made", x.made(0, 0), 198);
        due.is("made", x.made(1, 0), 197);
        due.is("as(0)", x.as(0), true);
        due.is("by the text", x.made(0, 0), 7);
        due.is("still 200", x.worth(0, 1), -1);
        due.is("text", Due.told(x, AB + "road a b worth 9;"), 5);
        due.is("none of them", x.has(4), 0);
        due.is("the first one again", x.worth(0, 1), 1);
        due.is("known", x.made(0, 0), 1);
    }

    /** "the ACT that tells it; NONE if there is none such, it is VOID or tells so" */
    private void annulsRefused() {
        // The full object has 4 acts: the 3rd is void, the 4th tells so; it is known as at the 2nd.
        for (int act : new int[] {0, -1, -2, 3, 4, 5, 6, 200, 201, Integer.MAX_VALUE, Integer.MIN_VALUE}) {
            Seen.refused(due, "annul " + act, y -> y.annul(act), -1);
        }
        due.is("no acts", new RoadDeals().annul(0), -1);
        due.is("no acts", new RoadDeals().annul(1), -1);
        RoadDeals x = Due.with(AB + "road a b worth 7;");
        due.is("no acts", x.annul(1), -1);
        x.worth(0, 20);
        due.is("none such", x.annul(2), -1);
        due.is("the first", x.annul(1), 2);
        due.is("made", x.made(0, 0), 7);
        due.is("is void", x.annul(1), -1);
        due.is("tells so", x.annul(2), -1);
        due.is("acts", x.has(4), 2);
    }

    private void annulsAtTheLimit() {
        RoadDeals x = Due.with(AB + "road a b worth 7;");
        for (int n = 1; n <= 100; n++) {
            x.worth(0, n);
        }
        for (int n = 1; n <= 99; n++) {
            due.is("annul", x.annul(n), 100 + n);
        }
        due.is("the last that may be", x.annul(100), 200);
        due.is("all are void", x.made(0, 0), 7);
        due.is("200", x.has(4), 200);
        due.is("one more", x.worth(0, 3), -1);
        x.as(199);
        due.is("not void by 199", x.made(0, 0), 100);
        x.as(100);
        due.is("none is void", x.made(0, 0), 100);
        x.as(50);
        due.is("the fiftieth", x.made(0, 0), 50);
        x = Due.with(AB + "road a b worth 7;");
        for (int n = 1; n <= 199; n++) {
            x.worth(0, n);
        }
        due.is("the 200th", x.annul(199), 200);
        due.is("a 201st", x.annul(198), -1);
        due.is("made", x.made(0, 0), 198);
    }

    /** "as known at an ACT (0: none; NONE: always the last one): true; false if there is none such" */
    private void knownActs() {
        for (int act : new int[] {-2, -3, 5, 6, 201, Integer.MAX_VALUE, Integer.MIN_VALUE}) {
            Seen.refused(due, "as " + act, y -> Seen.number(y.as(act)), 0);
        }
        RoadDeals x = new RoadDeals();
        due.is("as(0)", x.as(0), true);
        due.is("as(-1)", x.as(-1), true);
        due.is("as(1)", x.as(1), false);
        due.is("as(-2)", x.as(-2), false);
        x = Due.with(AB + "road a b worth 7;");
        due.is("as(1)", x.as(1), false);
        due.is("as(0)", x.as(0), true);
        x.worth(0, 50);
        due.is("as 0: none", x.made(0, 0), 7);
        due.is("as(1)", x.as(1), true);
        due.is("as 1", x.made(0, 0), 50);
        x.worth(0, 60);
        due.is("as 1", x.made(0, 0), 50);
        due.is("as(2)", x.as(2), true);
        due.is("as 2", x.made(0, 0), 60);
        due.is("as(3)", x.as(3), false);
        due.is("as 2 still", x.made(0, 0), 60);
        due.is("annul", x.annul(2), 3);
        due.is("not void by 2", x.made(0, 0), 60);
        due.is("as(3)", x.as(3), true);
        due.is("void by 3", x.made(0, 0), 50);
        due.is("as(-1)", x.as(-1), true);
        due.is("annul", x.annul(1), 4);
        due.is("the last one", x.made(0, 0), 7);
    }

    /** "the last ACT known of it counts in place of both" its TEST and its SUM */
    private void countsInPlaceOfBoth() {
        RoadDeals x = Due.with(AB + "road a b worth 5 when not all;road c d worth 6 when all;");
        due.is("not open", x.made(0, 0), Due.NO_NUMBER);
        due.is("open", x.made(1, 0), 6);
        x.worth(0, 0);
        x.worth(1, -1);
        due.is("open", x.made(0, 0), 0);
        due.is("not open", x.made(1, 0), Due.NO_NUMBER);
        due.is("most", x.most(false), 0);
        x.worth(0, 4);
        due.is("most", x.most(false), 4);
        x.as(0);
        due.is("most", x.most(false), 6);
    }

    /** "-2000000000 if it is not OPEN, there is none such, or for others" */
    private void madeRefused() {
        // Of the full object the 4th road is not open on this day.
        for (int what : new int[] {-1, 0, 1, 2, 3, Integer.MAX_VALUE, Integer.MIN_VALUE}) {
            for (int road : NO_ROADS) {
                Seen.refused(due, "made " + road + ", " + what, y -> y.made(road, what), Due.NO_NUMBER);
            }
            Seen.refused(due, "made 3, " + what, y -> y.made(3, what), Due.NO_NUMBER);
        }
        for (int what : new int[] {-1, 3, 4, -2, 256, Integer.MAX_VALUE, Integer.MIN_VALUE}) {
            Seen.refused(due, "made 0, " + what, y -> y.made(0, what), Due.NO_NUMBER);
        }
        due.is("no roads", new RoadDeals().made(0, 0), Due.NO_NUMBER);
        due.is("no roads", Due.with(AB).made(0, 2), Due.NO_NUMBER);
    }

    /** "only what is above 0 counts"; "its GAIN (1; 0 at least)"; what is MADE may be below 0 */
    private void gainsAboveNothing() {
        for (int worth = 0; worth < 12; worth++) {
            RoadDeals x = Due.with("who a alone 3;who b alone 4;road a b worth " + worth + ";taste a b less 2;");
            int gain = Math.max(0, worth - 9);
            due.is("made", x.made(0, 0), worth - 2);
            due.is("gain", x.made(0, 1), gain);
            due.is("no doubt", x.made(0, 2), 0);
            due.is("most", x.most(false), gain);
            due.is("halves", x.most(true), 2 * gain);
            due.is("row", x.row(0), gain > 0 ? 0 : -1);
            due.is("ways", x.ways(), 1);
            due.is("greatest", x.end(0, true), 6 + 2 * gain);
        }
        RoadDeals x = Due.with(AB + "road a b worth 0;taste a b less 9999;taste b a less 9999;doubt b a 9999;");
        due.is("made", x.made(0, 0), -19998);
        due.is("gain", x.made(0, 1), 0);
        due.is("doubt", x.made(0, 2), 9999);
        x = Due.with(AB + "road a b worth 9999*11;taste a b 9999;taste b a 9999;");
        due.is("made", x.made(0, 0), 119998);
        due.is("gain", x.made(0, 1), 119998);
    }

    /** Nobody, or no ROADS, or none that is OPEN */
    private void nothingToMake() {
        String[] texts = {"", "who a alone 5;", AB, AB + "road a b worth 5 when not all;", AB + "road a b worth 0;"};
        for (String text : texts) {
            RoadDeals x = Due.with(text);
            due.is("most", x.most(false), 0);
            due.is("halves", x.most(true), 0);
            due.is("row", x.row(0), -1);
            due.is("of(0)", x.of(0), 0);
            due.is("ways", x.ways(), 1);
            due.is("dealRow", x.dealRow(), 0);
            due.is("away", x.away(), 0);
            due.is("breaks", x.breaks(), -1);
            due.is("gift", x.gift(), 0);
            due.is("surely", x.surely(), 2);
            due.is("uneven", x.uneven(), -1);
            due.is("haggle", x.haggle(1000), 1);
            int alone = x.has(0) == 1 ? 10 : x.has(0) == 0 ? -1 : 0;
            due.is("least", x.end(0, false), alone);
            due.is("greatest", x.end(0, true), alone);
        }
    }

    /** "one whole at most at each of WHO": from a ring of three on halves may make more */
    private void theMostAndHalves() {
        String ring = AB + "who e alone 0;road a b worth 9;road b c worth 9;road c a worth 9;";
        most(ring, 9, 27);
        // The one of a ring that is left over may have a road elsewhere.
        most(ring + "road c d worth 1;", 10, 27);
        most(ring + "road c d worth 4;", 13, 27);
        most(ring + "road c d worth 5;", 14, 28);
        most(ring + "road d e worth 7;", 16, 41);
        most(AB + "road a b worth 9;road b c worth 9;road c d worth 9;road d a worth 9;", 18, 36);
        most(AB + "who e alone 0;road a b worth 9;road b c worth 9;road c d worth 9;road d e worth 9;road e a worth 9;",
                18, 45);
        most(AB + "road a b worth 9999*11;road b c worth 9999*11;road c a worth 9999*11;", 100000, 300000);
    }

    private void most(String text, int most, int halves) {
        RoadDeals x = Due.with(text);
        due.is("halves ahead of the most", x.most(true), halves);
        due.is("most", x.most(false), most);
        due.is("ends only if that is the same", x.end(0, true) >= 0, halves == 2 * most);
    }

    /** "The k-th ROAD of THE ROW; NONE if there is none such." */
    private void rows() {
        RoadDeals x = Due.with(AB + "road a b worth 1;road a c worth 2;road c d worth 3;");
        int[] row = {0, 2, -1, -1, -1, -1, -1};
        for (int k = 0; k < row.length; k++) {
            due.is("row(" + k + ")", x.row(k), row[k]);
        }
        for (int k : new int[] {-1, -2, 30, Integer.MAX_VALUE, Integer.MIN_VALUE}) {
            due.is("row(" + k + ")", x.row(k), -1);
            Seen.refused(due, "row(" + k + ")", y -> y.row(k), -1);
        }
    }

    /** "of those that have it the first in the order of rows of ROADS": one in the middle makes as much as two beside */
    private void theFirstRow() {
        String ab = "road a b worth 5;";
        String bc = "road b c worth 10;";
        String cd = "road c d worth 5;";
        row(ab + bc + cd, 0, 2, -1);
        row(ab + cd + bc, 0, 1, -1);
        row(cd + ab + bc, 0, 1, -1);
        row(cd + bc + ab, 0, 2, -1);
        row(bc + ab + cd, 0, -1, -1);
        row(bc + cd + ab, 0, -1, -1);
        // One more, or one less, and it is no longer as much.
        RoadDeals x = Due.with(AB + ab + "road b c worth 11;" + cd);
        due.is("row", x.row(0), 1);
        due.is("ways", x.ways(), 1);
        x = Due.with(AB + "road b c worth 9;" + ab + cd);
        due.is("row", x.row(0), 1);
        due.is("row", x.row(1), 2);
        due.is("ways", x.ways(), 1);
        // All as good: four in a ring.
        row("road d a worth 5;road c d worth 5;road a b worth 5;road b c worth 5;", 0, 3, -1);
        row("road d a worth 5;road b c worth 5;road c d worth 5;road a b worth 5;", 0, 1, -1);
    }

    private void row(String roads, int... row) {
        RoadDeals x = Due.with(AB + roads);
        for (int k = 0; k < row.length; k++) {
            due.is("row(" + k + ") of " + roads, x.row(k), row[k]);
        }
        due.is("ways", x.ways(), 2);
    }

    /** Twelve of WHO have six ROADS in THE ROW at most. */
    private void sixInARow() {
        StringBuilder text = new StringBuilder(TextTest.people(12));
        for (int who = 0; who < 12; who += 2) {
            text.append("road ").append(Brute.name(who)).append(' ').append(Brute.name(who + 1)).append(" worth 3;");
        }
        RoadDeals x = Due.with(text.toString());
        for (int k = -1; k < 9; k++) {
            due.is("row(" + k + ")", x.row(k), k >= 0 && k < 6 ? k : -1);
        }
        due.is("most", x.most(false), 18);
        due.is("halves", x.most(true), 36);
        due.is("ways", x.ways(), 1);
        due.is("of all", x.of(4095), 18);
        due.is("of the last two", x.of(3072), 3);
        due.is("the last one", x.end(11, true), 6);
        due.is("both", x.two(10, 11, false, false), 6);
        due.is("ahead", x.two(11, 0, true, false), -6);
        due.is("moves", x.moves(5, -1), 3072);
        due.is("dealRow", x.dealRow(), 6);
        for (int who = 0; who < 12; who++) {
            due.is("share", x.share(who), who % 2 == 0 ? 1 : 2);
        }
    }

    /** "NONE if there are none such" */
    private void endsRefused() {
        for (int who : NOBODIES) {
            Seen.refused(due, "least of " + who, y -> y.end(who, false), -1);
            Seen.refused(due, "greatest of " + who, y -> y.end(who, true), -1);
        }
        due.is("nobody", new RoadDeals().end(0, true), -1);
        RoadDeals x = Due.with(TextTest.people(12) + "road k l worth 3;");
        due.is("the twelfth", x.end(11, true), 6);
        due.is("a thirteenth", x.end(12, true), -1);
    }

    /** "There are such just if twice THE MOST is HALVES."; "(twice what is alone is 0 at least)" */
    private void endsAndHalves() {
        String ring = "who a alone 0;who b alone 0;who c alone 0;who d alone 0;who e alone 6;"
                + "road a b worth 8;road b c worth 8;road c a worth 8;road c d worth ";
        for (int worth = 0; worth < 10; worth++) {
            RoadDeals x = Due.with(ring + worth + ";");
            // Halves of the ring make 12; a b and c d make 8 and this.
            boolean are = worth >= 4;
            due.is("ends with " + worth, x.end(0, false) >= 0, are);
            due.is("ends with " + worth, x.end(0, true) >= 0, are);
            due.is("who has no road", x.end(4, true), are ? 12 : -1);
            due.is("who has no road", x.end(4, false), are ? 12 : -1);
            due.is("two with " + worth, x.two(0, 4, false, true) != Due.NO_NUMBER, are);
        }
        RoadDeals x = Due.with(ring + "4;");
        due.is("d has nothing", x.end(3, true), 0);
        due.is("d has nothing", x.end(3, false), 0);
        due.is("c has all of it", x.end(2, false), 8);
        due.is("all is fixed", x.end(2, true), 8);
        x = Due.with(ring + "5;");
        due.is("d has nothing at least", x.end(3, false), 0);
        due.is("d has one at most", x.end(3, true), 2);
    }

    /** "THE MOST OF a set (bits); NONE if it is none." */
    private void sets() {
        for (int set : new int[] {-1, -2, 16, 17, 31, 32, 4095, 4096, Integer.MAX_VALUE, Integer.MIN_VALUE}) {
            Seen.refused(due, "of " + set, y -> y.of(set), -1);
        }
        RoadDeals x = Due.with(AB + "road a b worth 1;road b c worth 10;road c d worth 100;");
        int[] most = {0, 0, 0, 1, 0, 0, 10, 10, 0, 0, 0, 1, 100, 100, 100, 101};
        for (int set = 0; set < 16; set++) {
            due.is("of " + set, x.of(set), most[set]);
        }
        x = new RoadDeals();
        due.is("of nobody", x.of(0), 0);
        due.is("of one", x.of(1), -1);
        x = Due.with(TextTest.people(12) + "road k l worth 3;");
        due.is("of all", x.of(4095), 3);
        due.is("of the last two", x.of(3072), 3);
        due.is("of the last one", x.of(2048), 0);
        due.is("of a thirteenth", x.of(4096), -1);
        due.is("of a thirteenth", x.of(8191), -1);
    }

    /** "if its WORTH were n (0 .. 100000; NONE: CLOSED); NONE if it can't be" */
    private void movesRefused() {
        for (int road : NO_ROADS) {
            Seen.refused(due, "moves " + road + ", 5", y -> y.moves(road, 5), -1);
            Seen.refused(due, "moves " + road + ", -1", y -> y.moves(road, -1), -1);
        }
        for (int n : new int[] {-2, -3, 100001, 100002, Integer.MAX_VALUE, Integer.MIN_VALUE}) {
            Seen.refused(due, "moves 0, " + n, y -> y.moves(0, n), -1);
            Seen.refused(due, "moves 3, " + n, y -> y.moves(3, n), -1);
        }
        due.is("no roads", new RoadDeals().moves(0, -1), -1);
    }

    private void movesAtTheLimits() {
        RoadDeals x = Due.with(AB + "road a b worth 5;road c d worth 9999*11;");
        due.is("closed", x.moves(0, -1), 3);
        due.is("0", x.moves(0, 0), 3);
        due.is("as it is", x.moves(0, 5), 0);
        due.is("100000", x.moves(0, 100000), 3);
        due.is("100000, as it is", x.moves(1, 100000), 0);
        due.is("99999", x.moves(1, 99999), 12);
        due.is("all stays", x.made(0, 0), 5);
        due.is("no act", x.has(4), 0);
        // Ends with the one and none with the other: all are moved, those without a road, too.
        x = Due.with(AB + "who e alone 1;road a b worth 8;road b c worth 8;road c a worth 0;");
        due.is("a ring of three", x.moves(2, 8), 31);
        due.is("the least one that halves count of", x.moves(2, 1), 31);
        due.is("no gain", x.moves(2, 0), 0);
        x.worth(2, 8);
        due.is("none with both", x.moves(2, 7), 0);
        due.is("none with it", x.moves(2, 0), 31);
        due.is("none with it", x.moves(0, -1), 31);
        x = Due.with(TextTest.people(12) + "road a b worth 8;road b c worth 8;road c a worth 8;");
        due.is("all twelve", x.moves(0, -1), 4095);
    }

    /** "as bits ...; NONE if there is none such" */
    private void paysRefused() {
        for (int road : NO_ROADS) {
            Seen.refused(due, "pays " + road, y -> y.pays(road), -1);
        }
        due.is("no roads", new RoadDeals().pays(0), -1);
    }

    /** "none, if there are no ENDS with it or without it"; those "whose least ENDS grow" */
    private void paysWithoutEnds() {
        String ring = AB + "road a b worth 8;road b c worth 8;road c a worth 8;";
        RoadDeals x = Due.with(ring);
        due.is("none with it", x.end(0, true), -1);
        due.is("none with it", x.pays(0), 0);
        due.is("ends without it", x.moves(0, -1), 15);
        x = Due.with(ring + "road c d worth 8;");
        due.is("ends with it", x.end(0, true) >= 0, true);
        due.is("none without it", x.pays(3), 0);
        due.is("all move", x.moves(3, -1), 15);
        x = Due.with(AB + "road a b worth 7;road b c worth 7 when not all;");
        due.is("it is not open", x.pays(1), 0);
        // Without a b, both b and d have nowhere but c to go.
        x = Due.with(AB + "road b c worth 7;road c d worth 7;road a b worth 3;");
        due.is("least of c", x.end(2, false), 8);
        due.is("c pays for a b", x.pays(2), 4);
        x.worth(2, -1);
        due.is("least of c grew", x.end(2, false), 14);
        due.is("all stays closed", x.pays(2), 0);
    }

    /** "-2000000000 if there are none such (the same one, too)" */
    private void twosRefused() {
        for (int who : NOBODIES) {
            Seen.refused(due, "two " + who + ", 0", y -> y.two(who, 0, false, false), Due.NO_NUMBER);
            Seen.refused(due, "two 0, " + who, y -> y.two(0, who, true, true), Due.NO_NUMBER);
            Seen.refused(due, "two " + who + " twice", y -> y.two(who, who, true, false), Due.NO_NUMBER);
        }
        for (int who = 0; who < 4; who++) {
            int one = who;
            Seen.refused(due, "the same one", y -> y.two(one, one, false, true), Due.NO_NUMBER);
            Seen.refused(due, "the same one", y -> y.two(one, one, true, true), Due.NO_NUMBER);
        }
        RoadDeals x = Due.with(AB + "road a b worth 8;road b c worth 8;road c a worth 8;");
        due.is("no ends", x.two(0, 3, false, true), Due.NO_NUMBER);
        due.is("no ends", x.two(0, 3, true, false), Due.NO_NUMBER);
        // Asked ahead of all else, and below 0 as it is.
        x = Due.with("who a alone 0;who b alone 5;road a b worth 6;");
        due.is("ahead, least", x.two(0, 1, true, false), -12);
        x = Due.with("who a alone 0;who b alone 5;road a b worth 6;");
        due.is("ahead, most", x.two(0, 1, true, true), -8);
        x = Due.with("who a alone 0;who b alone 5;road a b worth 6;");
        due.is("both, least", x.two(0, 1, false, false), 12);
        due.is("both, most", x.two(1, 0, false, true), 12);
        due.is("ahead, turned", x.two(1, 0, true, true), 12);
        x = Due.with("who a alone 9999;who b alone 0;");
        due.is("without roads", x.two(1, 0, true, true), -19998);
        due.is("without roads", x.two(1, 0, false, true), 19998);
    }

    /** "the least WORTH, 0 at least, with which its GAIN (a number below 0 as it is) and ..." */
    private void prices() {
        for (int road : NO_ROADS) {
            Seen.refused(due, "price " + road, y -> y.price(road), -1);
        }
        due.is("no roads", new RoadDeals().price(0), -1);
        RoadDeals x = Due.with("who a alone 10;who b alone 10;road a b worth 5;");
        due.is("a gain below 0 as it is", x.price(0), 20);
        x = Due.with("who a alone 10;who b alone 10;road a b worth 5;taste a b 20;");
        due.is("just 0", x.price(0), 0);
        x = Due.with("who a alone 10;who b alone 10;road a b worth 5;taste a b 19;");
        due.is("just 1", x.price(0), 1);
        x = Due.with("who a alone 10;who b alone 10;road a b worth 5;taste a b 99;");
        due.is("0 at least", x.price(0), 0);
        x = Due.with("who a alone 10;who b alone 10;road a b worth 5 when not all;taste a b less 9999;");
        due.is("not open", x.price(0), 10019);
        x = Due.with("who a alone 9999;who b alone 9999;road a b worth 5;taste a b less 9999;taste b a less 9999;");
        due.is("far", x.price(0), 39996);
        // With others: c d is left with a b, and both its neighbours are not.
        x = Due.with(AB + "road a b worth 1;road b c worth 6;road c d worth 4;road a d worth 1;");
        due.is("price", x.price(1), 4);
        due.is("price", x.price(0), 3);
        due.is("price", x.price(2), 6);
        due.is("all stays", x.most(false), 7);
    }

    /** "how many MATCHINGS have THE MOST": that of no ROADS is one, too */
    private void waysToMakeIt() {
        due.is("nobody", new RoadDeals().ways(), 1);
        due.is("no gain", Due.with(AB + "road a b worth 0;").ways(), 1);
        due.is("one", Due.with(AB + "road a b worth 1;").ways(), 1);
        due.is("three", Due.with(AB + "road a b worth 1;road b c worth 1;road b d worth 1;").ways(), 3);
        due.is("all of four", Due.with(AB + "road a b worth 1;road a c worth 1;road a d worth 1;road b c worth 1;"
                + "road b d worth 1;road c d worth 1;").ways(), 3);
    }

    /** So many that none can have more by far: four, each with a road to nearly all of eight */
    private void manyWays() {
        Brute net = Brute.of(12, 30);
        for (int other = 4; other < 12; other++) {
            for (int one = 0; one < 4 && net.roads < 30; one++) {
                net.add(one, other, 1);
            }
        }
        RoadDeals x = Due.with(net.text(due));
        due.is("ways", x.ways(), net.ways());
        due.is("more than a thousand", x.ways() > 1000, true);
        due.is("most", x.most(false), 4);
        due.is("row", x.row(3), 15);
        due.is("row", x.row(4), -1);
    }

    /** 12 of WHO and 30 ROADS */
    private void asManyAsCanBe() {
        Brute net = Brute.of(12, 30);
        for (int one = 0; one < 6; one++) {
            for (int step = 0; step < 5; step++) {
                net.add(one, 6 + (one + step) % 6, 1);
            }
        }
        RoadDeals x = Due.with(net.text(due));
        due.is("roads", x.has(1), 30);
        due.is("most", x.most(false), 6);
        due.is("halves", x.most(true), 12);
        due.is("ways", x.ways(), net.ways());
        int row = net.row();
        for (int k = 0; k < 6; k++) {
            due.is("row", x.row(k), Integer.numberOfTrailingZeros(row));
            row &= row - 1;
        }
        due.is("row", x.row(6), -1);
        due.is("the last road", x.made(29, 0), 1);
        due.is("moves", x.moves(29, 100000), 1 << 5 | 1 << 9);
        due.is("pays", x.pays(29), 0);
        due.is("price", x.price(29), 1);
        for (int n : new int[] {100000, 0, -1}) {
            x.worth(29, n);
            net = net.with(29, n < 0 ? null : Integer.valueOf(n));
            due.is("most", x.most(false), net.most(4095));
            due.is("ways", x.ways(), net.ways());
        }
    }
}
