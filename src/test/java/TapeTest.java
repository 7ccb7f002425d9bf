/** Promises 1 to 3: a new object, feed, end. */
public final class TapeTest {
    public static void main(String[] args) {
        Due due = new Due("TapeTest");
        fresh(due);
        feeds(due);
        ends(due);
        due.end();
    }

    private static void fresh(Due due) {
        RoadDeals x = new RoadDeals();
        for (int what = 0; what < 8; what++) {
            due.is("has(" + what + ")", x.has(what), 0);
        }
        due.is("has(-1)", x.has(-1), -1);
        due.is("has(8)", x.has(8), -1);
        due.is("fault(0)", x.fault(0), 0);
        due.is("fault(1)", x.fault(1), -1);
        due.is("fault(2)", x.fault(2), -1);
        due.is("fault(-1)", x.fault(-1), -1);
        due.is("letter", x.letter(0, 0), -1);
        due.is("road", x.road(0, 0), -1);
        due.is("made", x.made(0, 0), Due.NO_NUMBER);
        due.is("most", x.most(false), 0);
        due.is("halves", x.most(true), 0);
        due.is("row", x.row(0), -1);
        due.is("end", x.end(0, true), -1);
        due.is("of(0)", x.of(0), 0);
        due.is("of(1)", x.of(1), -1);
        due.is("moves", x.moves(0, 5), -1);
        due.is("pays", x.pays(0), -1);
        due.is("two", x.two(0, 1, true, true), Due.NO_NUMBER);
        due.is("price", x.price(0), -1);
        due.is("ways", x.ways(), 1);
        due.is("worth", x.worth(0, 5), -1);
        due.is("annul", x.annul(1), -1);
        due.is("as(1)", x.as(1), false);
        due.is("as(0)", x.as(0), true);
        due.is("deal", x.deal(0, 0), -1);
        due.is("undeal", x.undeal(0), -1);
        due.is("dealRow", x.dealRow(), 0);
        due.is("share", x.share(0), Due.NO_NUMBER);
        due.is("money", x.money(0), Due.NO_NUMBER);
        due.is("other", x.other(0, false), Due.NO_NUMBER);
        due.is("other to", x.other(0, true), Due.NO_NUMBER);
        due.is("chain", x.chain(0, 0), -1);
        due.is("breaks", x.breaks(), -1);
        due.is("away", x.away(), 0);
        due.is("uneven", x.uneven(), -1);
        due.is("ended", x.ended(), -1);
        due.is("gift", x.gift(), 0);
        due.is("surely", x.surely(), 2);
        due.is("octet", x.octet(0), -1);
        due.is("on", x.on(), false);
        due.is("end(0)", x.end(0), true);
        due.is("text", x.text(), 0);
        due.is("haggle", x.haggle(7), 1);
        due.is("ended", x.ended(), 0);
        due.is("image", x.image(), 5);
    }

    private static void feeds(Due due) {
        RoadDeals x = new RoadDeals();
        // "who abcdef alone 7;" and a blank: the bytes come the highest first.
        due.is("feed", x.feed(0x77686f20, 0x61626364, 0x65662061, 0x6c6f6e65, 0x20373b20), 20);
        due.is("text", x.text(), 1);
        String name = "abcdef";
        for (int k = 0; k < 6; k++) {
            due.is("letter", x.letter(0, k), name.charAt(k));
        }
        due.is("has(0)", x.has(0), 1);
        for (int n = 1; n <= 45; n++) {
            due.is("feed " + n, x.feed(0x20202020, 0x20202020, 0x20202020, 0x20202020, 0x20202020), 20 * n);
        }
        due.is("one too many", x.feed(0, 0, 0, 0, 0), -1);
        due.is("again", x.feed(0, 0, 0, 0, 0), -1);
        due.is("nothing was done", x.text(), 0);
        RoadDeals y = new RoadDeals();
        for (int n = 1; n <= 45; n++) {
            y.feed(-1, -1, -1, -1, -1);
        }
        due.is("end(881)", y.end(881), true);
        due.is("881 and 20", y.feed(0, 0, 0, 0, 0), -1);
        due.is("end(880)", y.end(880), true);
        due.is("880 and 20", y.feed(0, 0, 0, 0, 0), 900);
        due.is("byte 255", y.text(), -1);
        due.is("its place", y.fault(1), 0);
    }

    private static void ends(Due due) {
        RoadDeals x = new RoadDeals();
        due.is("end(1) of none", x.end(1), false);
        due.is("end(-1)", x.end(-1), false);
        Due.feed(x, "who a alone 1;who b ");
        due.is("end(21)", x.end(21), false);
        due.is("end(-1)", x.end(-1), false);
        due.is("end(20)", x.end(20), true);
        due.is("end(14)", x.end(14), true);
        due.is("end(15)", x.end(15), false);
        due.is("more behind", x.feed(0x77686f20, 0x6220616c, 0x6f6e6520, 0x323b2020, 0x20202020), 34);
        due.is("text", x.text(), 2);
        due.is("the tape went", x.end(1), false);
        due.is("end(0)", x.end(0), true);
        Due.feed(x, "who");
        due.is("refused", x.text(), -1);
        due.is("the tape went, refused", x.end(1), false);
    }
}
