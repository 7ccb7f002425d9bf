/** Promises 37 to 39: image, octet, on. */
public final class ImageTest {
    private static final String TEXT = "who a alone 1;who b alone 2;who c alone 3;who d alone 4;"
            + "road a b worth 10;road c b worth 12 when day<5;road c d worth 20;";

    private final Due due = new Due("ImageTest");

    public static void main(String[] args) {
        ImageTest test = new ImageTest();
        test.written();
        test.taken();
        test.notOpen();
        test.refused();
        test.likeRandom();
        test.due.end();
    }

    private static byte[] bytes(int... all) {
        byte[] bytes = new byte[all.length];
        for (int k = 0; k < all.length; k++) {
            bytes[k] = (byte) all[k];
        }
        return bytes;
    }

    /** With the two bytes behind that are due. */
    private static byte[] checked(int... all) {
        byte[] bytes = java.util.Arrays.copyOf(bytes(all), all.length + 2);
        int check = 1;
        for (int it : all) {
            check = (31 * check + it) % 65521;
        }
        bytes[all.length] = (byte) (check >> 8);
        bytes[all.length + 1] = (byte) check;
        return bytes;
    }

    private void image(RoadDeals x, byte[] want) {
        due.is("image", x.image(), want.length);
        for (int k = 0; k < want.length; k++) {
            due.is("octet " + k, x.octet(k), want[k] & 255);
        }
        due.is("octet behind", x.octet(want.length), -1);
        due.is("octet -1", x.octet(-1), -1);
        due.is("octet far", x.octet(Integer.MAX_VALUE), -1);
    }

    private boolean on(RoadDeals x, byte[] bytes) {
        Due.feed(x, bytes);
        boolean taken = x.on();
        due.is("the tape went", x.end(1), false);
        return taken;
    }

    private void written() {
        RoadDeals x = new RoadDeals();
        due.is("no octet", x.octet(0), -1);
        // c: 1, 31, 961, 29791, behind three bytes of 0.
        image(x, bytes(0, 0, 0, 116, 95));
        x.day(999);
        image(x, checked(0, 3, 231));
        x = Due.with(TEXT);
        image(x, checked(3, 0, 0, 255, 255, 255));
        x.deal(0, -2);
        x.deal(2, 909060);
        x.day(258);
        due.is("the latest one stays", x.octet(3), 255);
        image(x, checked(3, 1, 2, 1, 255, 255, 255, 254, 255, 1, 0, 13, 223, 4));
        x.undeal(0);
        x.deal(2, -1000000);
        image(x, checked(3, 1, 2, 255, 255, 1, 255, 240, 189, 192));
        x.deal(2, 1000000);
        image(x, checked(3, 1, 2, 255, 255, 1, 0, 15, 66, 64));
    }

    private void taken() {
        RoadDeals x = Due.with(TEXT);
        x.worth(0, 50);
        x.deal(1, 7);
        due.is("on", on(x, checked(3, 0, 9, 1, 0, 0, 0, 7, 255, 1, 255, 255, 255, 255)), true);
        due.is("day", x.has(7), 9);
        due.is("deals", x.has(6), 2);
        due.is("share", x.share(0), 7);
        due.is("share", x.share(1), 43);
        due.is("share", x.share(2), -1);
        due.is("share", x.share(3), 21);
        due.is("acts stay", x.has(4), 1);
        due.is("the day counts", x.made(1, 0), Due.NO_NUMBER);
        due.is("on", on(x, checked(3, 3, 231, 255, 255, 255)), true);
        due.is("day", x.has(7), 999);
        due.is("deals", x.has(6), 0);
        due.is("on", on(x, checked(3, 0, 0, 255, 1, 255, 240, 189, 192, 255)), true);
        due.is("share", x.share(2), -1000000);
        due.is("on", on(x, checked(3, 0, 0, 255, 1, 0, 15, 66, 64, 255)), true);
        due.is("share", x.share(2), 1000000);
        due.is("no image was written", x.octet(0), -1);
        RoadDeals y = new RoadDeals();
        due.is("of nobody", on(y, checked(0, 0, 4)), true);
        due.is("day", y.has(7), 4);
    }

    /** Whether the roads are open or not. */
    private void notOpen() {
        RoadDeals x = Due.with(TEXT);
        x.deal(1, 7);
        x.day(6);
        due.is("none now", x.share(2), 3);
        image(x, checked(3, 0, 6, 255, 1, 0, 0, 0, 7, 255));
        x.worth(2, -1);
        due.is("on", on(x, checked(3, 0, 6, 1, 0, 0, 0, 5, 255, 1, 0, 0, 0, 6)), true);
        due.is("told", x.has(6), 2);
        due.is("none now", x.share(3), 4);
        x.as(0);
        due.is("now", x.share(3), 14);
        due.is("on", on(x, checked(3, 0, 7, 255, 1, 0, 0, 0, 7, 255)), true);
        due.is("none now", x.share(2), 3);
        x.day(0);
        due.is("now", x.share(2), 7);
    }

    private void refused() {
        RoadDeals x = Due.with(TEXT);
        x.day(3);
        x.deal(0, 6);
        byte[] good = checked(3, 0, 9, 1, 0, 0, 0, 7, 255, 1, 0, 0, 0, 8);
        byte[][] wrong = {
            {}, bytes(3), bytes(3, 0), checked(), checked(3), checked(3, 0, 9), checked(3, 0, 9, 255),
            checked(3, 0, 9, 255, 255), checked(3, 0, 9, 255, 255, 255, 255), checked(2, 0, 9, 255, 255),
            checked(2, 0, 9, 255, 255, 255), checked(4, 0, 9, 255, 255, 255, 255), checked(4, 0, 9, 255, 255, 255),
            checked(3, 3, 232, 255, 255, 255), checked(3, 255, 255, 255, 255, 255),
            checked(3, 0, 9, 255, 2, 255), checked(3, 0, 9, 0, 255, 255), checked(3, 0, 9, 254, 255, 255),
            checked(3, 0, 9, 2, 0, 0, 0, 7, 255, 255),
            checked(3, 0, 9, 1, 0, 0, 0, 7, 1, 0, 0, 0, 7, 255),
            checked(3, 0, 9, 255, 1, 0, 0, 0, 7, 1, 0, 0, 0, 7),
            checked(3, 0, 9, 1, 0, 15, 66, 65, 255, 255), checked(3, 0, 9, 1, 255, 240, 189, 191, 255, 255),
            checked(3, 0, 9, 1, 128, 0, 0, 0, 255, 255), checked(3, 0, 9, 1, 127, 255, 255, 255, 255, 255),
            checked(3, 0, 9, 255, 255, 1, 0, 0, 0), checked(3, 0, 9, 255, 255, 1),
            bytes(3, 0, 9, 255, 255, 255, 0, 0)};
        for (int k = 0; k < wrong.length; k++) {
            due.is("on of wrong " + k, on(x, wrong[k]), false);
            stays(x);
        }
        for (int k = 0; k < good.length; k++) {
            byte[] other = good.clone();
            other[k] ^= 1 << k % 8;
            due.is("on, byte " + k + " another", on(x, other), false);
            due.is("on, cut to " + k, on(x, java.util.Arrays.copyOf(good, k)), false);
            stays(x);
        }
        due.is("on, one more", on(x, java.util.Arrays.copyOf(good, good.length + 1)), false);
        stays(x);
        due.is("on", on(x, good), true);
        due.is("share", x.share(0), 7);
    }

    private void stays(RoadDeals x) {
        due.is("day stays", x.has(7), 3);
        due.is("deals stay", x.has(6), 1);
        due.is("share stays", x.share(0), 6);
    }

    /** Written by one, taken by another one. */
    private void likeRandom() {
        for (int n = 0; n < 100; n++) {
            Brute net = Brute.random(due, 2 + due.next(11), 40, 0, 9);
            String text = net.text(due);
            RoadDeals x = Due.with(text);
            RoadDeals y = Due.with(text);
            for (int k = 0; k < 20 && net.roads > 0; k++) {
                x.deal(due.next(net.roads), due.next(2000001) - 1000000);
                y.deal(due.next(net.roads), due.next(100));
            }
            x.day(due.next(1000));
            byte[] bytes = new byte[x.image()];
            for (int k = 0; k < bytes.length; k++) {
                bytes[k] = (byte) x.octet(k);
            }
            due.is("on", on(y, bytes), true);
            due.is("deals", y.has(6), x.has(6));
            due.is("day", y.has(7), x.has(7));
            for (int who = 0; who < net.people; who++) {
                due.is("share", y.share(who), x.share(who));
            }
        }
    }
}
