import java.util.ArrayList;
import java.util.List;

/** Promises 9 to 13: day, worth, annul, as, made. */
public final class ActTest {
    private static final String TEXT = "who a alone 3;who b alone 4;who c alone 0;"
            + "road a b worth 10+day when day<5;road c b worth 20;road a c worth 2 when day>2;"
            + "taste a b 6;taste b a less 1;taste b c less 30;doubt b a 2;doubt a b 9;";

    private final Due due = new Due("ActTest");

    public static void main(String[] args) {
        ActTest test = new ActTest();
        test.madeByText();
        test.actsInTurn();
        test.voids();
        test.refused();
        test.twoHundred();
        test.likeRandom();
        test.due.end();
    }

    private void made(RoadDeals x, int road, int made, int gain, int doubt) {
        due.is("made " + road, x.made(road, 0), made);
        due.is("gain " + road, x.made(road, 1), gain);
        due.is("doubt " + road, x.made(road, 2), doubt);
        due.is("made, 3", x.made(road, 3), Due.NO_NUMBER);
        due.is("made, -1", x.made(road, -1), Due.NO_NUMBER);
    }

    private void notOpen(RoadDeals x, int road) {
        for (int what = -1; what < 4; what++) {
            due.is("not open " + road, x.made(road, what), Due.NO_NUMBER);
        }
    }

    private void madeByText() {
        RoadDeals x = Due.with(TEXT);
        made(x, 0, 15, 8, 9);
        made(x, 1, -10, 0, 0);
        notOpen(x, 2);
        notOpen(x, 3);
        notOpen(x, -1);
        notOpen(x, Integer.MAX_VALUE);
        x.day(4);
        made(x, 0, 19, 12, 9);
        made(x, 2, 2, 0, 0);
        x.day(5);
        notOpen(x, 0);
        made(x, 2, 2, 0, 0);
    }

    private void actsInTurn() {
        RoadDeals x = Due.with(TEXT);
        x.day(5);
        due.is("acts", x.has(4), 0);
        due.is("known", x.has(5), 0);
        due.is("worth", x.worth(0, 0), 1);
        made(x, 0, 5, 0, 9);
        due.is("worth", x.worth(0, 100000), 2);
        made(x, 0, 100005, 99998, 9);
        due.is("closed", x.worth(0, -1), 3);
        notOpen(x, 0);
        due.is("closed", x.worth(1, -1), 4);
        notOpen(x, 1);
        due.is("by the text", x.worth(0, -2), 5);
        notOpen(x, 0);
        x.day(1);
        made(x, 0, 16, 9, 9);
        due.is("acts", x.has(4), 5);
        due.is("known", x.has(5), 5);
        due.is("as(0)", x.as(0), true);
        due.is("known", x.has(5), 0);
        made(x, 1, -10, 0, 0);
        due.is("as(1)", x.as(1), true);
        made(x, 0, 5, 0, 9);
        due.is("as(2)", x.as(2), true);
        made(x, 0, 100005, 99998, 9);
        due.is("as(3)", x.as(3), true);
        notOpen(x, 0);
        made(x, 1, -10, 0, 0);
        due.is("an act not known yet", x.worth(1, 60), 6);
        due.is("acts", x.has(4), 6);
        due.is("known", x.has(5), 3);
        made(x, 1, -10, 0, 0);
        due.is("as(7)", x.as(7), false);
        due.is("as(-2)", x.as(-2), false);
        due.is("known", x.has(5), 3);
        due.is("as(6)", x.as(6), true);
        made(x, 1, 30, 26, 0);
        due.is("worth", x.worth(1, 50), 7);
        made(x, 1, 30, 26, 0);
        due.is("as(-1)", x.as(-1), true);
        made(x, 1, 20, 16, 0);
        due.is("always the last one", x.worth(1, 40), 8);
        due.is("known", x.has(5), 8);
        made(x, 1, 10, 6, 0);
    }

    private void voids() {
        RoadDeals x = Due.with(TEXT);
        x.worth(0, 20);
        x.worth(0, 30);
        x.worth(0, 40);
        due.is("annul(2)", x.annul(2), 4);
        made(x, 0, 45, 38, 9);
        due.is("annul(3)", x.annul(3), 5);
        made(x, 0, 25, 18, 9);
        due.is("annul(2) again", x.annul(2), -1);
        due.is("a void's", x.annul(4), -1);
        due.is("annul(0)", x.annul(0), -1);
        due.is("annul(-1)", x.annul(-1), -1);
        due.is("annul(6)", x.annul(6), -1);
        due.is("acts", x.has(4), 5);
        x.as(4);
        made(x, 0, 45, 38, 9);
        due.is("not void by 4, but void", x.annul(3), -1);
        x.as(3);
        made(x, 0, 45, 38, 9);
        x.as(2);
        made(x, 0, 35, 28, 9);
        x.as(5);
        made(x, 0, 25, 18, 9);
        due.is("annul(1)", x.annul(1), 6);
        made(x, 0, 25, 18, 9);
        x.as(6);
        made(x, 0, 15, 8, 9);
        x.as(-1);
        made(x, 0, 15, 8, 9);
        due.is("closed", x.worth(0, -1), 7);
        notOpen(x, 0);
        due.is("annul(7)", x.annul(7), 8);
        made(x, 0, 15, 8, 9);
    }

    private void refused() {
        RoadDeals x = Due.with(TEXT);
        due.is("worth of none", x.worth(3, 5), -1);
        due.is("worth of none", x.worth(-1, 5), -1);
        due.is("worth too great", x.worth(0, 100001), -1);
        due.is("worth -3", x.worth(0, -3), -1);
        due.is("worth least", x.worth(0, Integer.MIN_VALUE), -1);
        due.is("no acts", x.has(4), 0);
        made(x, 0, 15, 8, 9);
    }

    private void twoHundred() {
        RoadDeals x = Due.with(TEXT);
        for (int n = 1; n <= 199; n++) {
            due.is("worth", x.worth(n % 3, n), n);
        }
        due.is("annul", x.annul(199), 200);
        due.is("worth", x.worth(0, 5), -1);
        due.is("annul", x.annul(5), -1);
        due.is("acts", x.has(4), 200);
        made(x, 1, 166, 162, 0);
        due.is("as(200)", x.as(200), true);
        due.is("as(201)", x.as(201), false);
        due.is("as(199)", x.as(199), true);
        made(x, 1, 169, 165, 0);
    }

    /** Beside lists of acts kept here. */
    private void likeRandom() {
        for (int n = 0; n < 60; n++) {
            RoadDeals x = Due.with("who a alone 0;who b alone 0;who c alone 0;"
                    + "road a b worth 500+day when day%3=0;road b c worth 600;road a c worth 700 when day%2=0;");
            List<int[]> acts = new ArrayList<>();
            int known = -1;
            int day = 0;
            for (int step = 0; step < 60; step++) {
                int count = acts.size();
                int kind = due.next(6);
                if (kind < 2) {
                    int worth = due.next(6) - 2;
                    int road = due.next(4);
                    due.is("worth", x.worth(road, worth), road < 3 ? count + 1 : -1);
                    if (road < 3) {
                        acts.add(new int[] {road, worth, 0});
                    }
                } else if (kind == 2) {
                    int act = due.next(count + 2);
                    boolean can = act >= 1 && act <= count && acts.get(act - 1)[0] >= 0 && acts.get(act - 1)[2] == 0;
                    due.is("annul", x.annul(act), can ? count + 1 : -1);
                    if (can) {
                        acts.add(new int[] {-1, 0, 0});
                        acts.get(act - 1)[2] = count + 1;
                    }
                } else if (kind == 3) {
                    int act = due.next(count + 3) - 1;
                    due.is("as", x.as(act), act <= count);
                    known = act <= count ? act : known;
                } else {
                    day = due.next(1000);
                    x.day(day);
                }
                check(x, acts, known < 0 ? acts.size() : known, day);
            }
        }
    }

    private void check(RoadDeals x, List<int[]> acts, int known, int day) {
        int[] want = {day % 3 == 0 ? 500 + day : -1, 600, day % 2 == 0 ? 700 : -1};
        int[] byText = want.clone();
        for (int act = 1; act <= known; act++) {
            int[] it = acts.get(act - 1);
            if (it[0] >= 0 && (it[2] == 0 || it[2] > known)) {
                want[it[0]] = it[1] == -2 ? byText[it[0]] : it[1];
            }
        }
        for (int road = 0; road < 3; road++) {
            due.is("made " + road, x.made(road, 0), want[road] == -1 ? Due.NO_NUMBER : want[road]);
        }
        due.is("known", x.has(5), known);
        due.is("acts", x.has(4), acts.size());
    }
}
