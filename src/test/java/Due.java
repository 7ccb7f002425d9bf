import java.nio.charset.StandardCharsets;

/** What the tests of the project share: counting wrong answers, feeding texts, numbers that look random. */
final class Due {
    static final int NO_NUMBER = -2000000000;

    private final String test;
    private int asked;
    private int wrong;
    private long seed;

    Due(String test) {
        this.test = test;
        this.seed = 88172645463325252L;
    }

    void is(String call, long got, long want) {
        asked++;
        if (got != want) {
            wrong++;
            if (wrong <= 40) {
                System.out.println(test + ": " + call + " answered " + got + ", due is " + want);
            }
        }
    }

    void is(String call, boolean got, boolean want) {
        is(call, got ? 1 : 0, want ? 1 : 0);
    }

    void end() {
        System.out.println(test + ": " + asked + " answers, " + wrong + " wrong");
        if (wrong != 0) {
            System.exit(1);
        }
    }

    /** 0 .. below - 1, always the same ones in the same order. */
    int next(int below) {
        seed ^= seed << 13;
        seed ^= seed >>> 7;
        seed ^= seed << 17;
        return (int) Math.floorMod(seed >> 11, (long) below);
    }

    static void feed(RoadDeals x, String text) {
        feed(x, text.getBytes(StandardCharsets.ISO_8859_1));
    }

    static void feed(RoadDeals x, byte[] bytes) {
        for (int from = 0; from < bytes.length; from += 20) {
            int[] five = new int[5];
            for (int k = 0; k < 20; k++) {
                int it = from + k < bytes.length ? bytes[from + k] & 255 : ' ';
                five[k / 4] = five[k / 4] << 8 | it;
            }
            x.feed(five[0], five[1], five[2], five[3], five[4]);
        }
        x.end(bytes.length);
    }

    static int told(RoadDeals x, String text) {
        feed(x, text);
        return x.text();
    }

    /** A text that is one. */
    void right(String text, int statements) {
        RoadDeals x = new RoadDeals();
        is("text '" + text + "'", told(x, text), statements);
        is("fault(0) '" + text + "'", x.fault(0), 0);
        is("fault(1) '" + text + "'", x.fault(1), -1);
    }

    /** A text with a fault, which is due where | stands. */
    void wrong(int fault, String marked) {
        int place = marked.indexOf('|');
        String text = marked.substring(0, place) + marked.substring(place + 1);
        RoadDeals x = new RoadDeals();
        is("text '" + marked + "'", told(x, text), -1);
        is("fault(0) '" + marked + "'", x.fault(0), fault);
        is("fault(1) '" + marked + "'", x.fault(1), place);
        is("fault(2)", x.fault(2), -1);
        is("fault(-1)", x.fault(-1), -1);
        is("nobody", x.has(0), 0);
    }

    static RoadDeals with(String text) {
        RoadDeals x = new RoadDeals();
        if (told(x, text) < 0) {
            throw new IllegalStateException("fault " + x.fault(0) + " at " + x.fault(1) + ": " + text);
        }
        return x;
    }
}
