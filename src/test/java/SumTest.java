/** SUMS and TESTS of the text, on days: reckoned a second time here, from trees. */
public final class SumTest {
    private static final int[] ALONE = {0, 7, 9999};

    private final Due due = new Due("SumTest");

    public static void main(String[] args) {
        SumTest test = new SumTest();
        test.byHand();
        test.likeRandom();
        test.due.end();
    }

    private void worth(String sum, int day, int want) {
        RoadDeals x = told("worth " + sum);
        due.is("day", x.day(day), true);
        due.is(sum + " on " + day, x.made(0, 0), want);
    }

    private void when(String test, int day, boolean want) {
        RoadDeals x = told("worth 1 when " + test);
        x.day(day);
        due.is(test + " on " + day, x.made(0, 0), want ? 1 : Due.NO_NUMBER);
    }

    private static RoadDeals told(String behind) {
        return Due.with("who a alone 0;who b alone 7;who c alone 9999;road a b " + behind + ";");
    }

    private void byHand() {
        worth("2+3*4", 0, 14);
        worth("(2+3)*4", 0, 20);
        worth("20-3-4", 0, 13);
        worth("20-(3-4)", 0, 21);
        worth("100/7/3", 0, 4);
        worth("100/(7/3)", 0, 50);
        worth("100%7*3", 0, 6);
        worth("2*100%7", 0, 4);
        worth("7/0+3", 0, 3);
        worth("7%0+3", 0, 3);
        worth("10+(0-7)/2", 0, 6);
        worth("10+(0-7)%2", 0, 11);
        worth("10+7/(0-2)", 0, 6);
        worth("10+7%(0-2)", 0, 9);
        worth("10+(0-6)/2", 0, 7);
        worth("day", 999, 999);
        worth("week", 999, 142);
        worth("wday", 999, 5);
        worth("week*7+wday", 20, 20);
        worth("alone b+alone c", 0, 10006);
        worth("min(3,8)*10+max(3,8)", 0, 38);
        worth("min(8,3)*10+max(8,3)", 0, 38);
        worth("9999*10", 0, 99990);
        worth("9999*10+10", 0, 100000);
        worth("9999*10+11", 0, 100000);
        worth("9999*9999", 0, 100000);
        worth("0-1", 0, 0);
        worth("3-day", 5, 0);
        worth("3-day", 2, 1);
        // Above and below 10 to the 9: 9999 * 9999 * 9999 is 10 to the 9, however it goes on.
        worth("9999*9999*9999/9999", 0, 100000);
        worth("9999*9999*9999%9999", 0, 1000000000 % 9999);
        worth("9999*9999*9999*9999%9999", 0, 1000000000 % 9999);
        worth("(0-9999*9999*9999)%9999", 0, Math.floorMod(-1000000000, 9999));
        worth("(9999*9999*9999+9999)%9999", 0, 1000000000 % 9999);
        worth("(0-9999*9999*9999-9999)%9999", 0, Math.floorMod(-1000000000, 9999));
        worth("(0-9999*9999*9999)*(0-9999*9999*9999)%9999", 0, 1000000000 % 9999);
        worth("(0-9999*9999*9999)*9999%9999", 0, Math.floorMod(-1000000000, 9999));
        when("all", 0, true);
        when("not all", 0, false);
        when("not not all", 0, true);
        when("day<5", 4, true);
        when("day<5", 5, false);
        when("day>5", 5, false);
        when("day>5", 6, true);
        when("day=5", 5, true);
        when("day=5", 6, false);
        when("not day=5", 6, true);
        when("not day=5 and all", 6, true);
        when("not day=5 or all", 5, true);
        when("not [day=5 or all]", 5, false);
        when("all or all and not all", 0, true);
        when("[all or all] and not all", 0, false);
        when("not all and not all or all", 0, true);
        when("day=1 or day=2 or day=3", 3, true);
        when("day=1 or day=2 or day=3", 4, false);
        when("day>1 and day<4 and wday=3", 3, true);
        when("day>1 and day<4 and wday=3", 10, false);
        when("day*2<9+1", 4, true);
        when("0-1<0", 0, true);
        RoadDeals x = told("worth day when day>3");
        due.is("not open", x.made(0, 0), Due.NO_NUMBER);
        due.is("day(1000)", x.day(1000), false);
        due.is("day(-1)", x.day(-1), false);
        due.is("day stays", x.has(7), 0);
        due.is("day(4)", x.day(4), true);
        due.is("open", x.made(0, 0), 4);
        due.is("day(1000)", x.day(1000), false);
        due.is("day stays", x.has(7), 4);
        due.is("day(999)", x.day(999), true);
        due.is("has(7)", x.has(7), 999);
        due.is("made", x.made(0, 0), 999);
        due.is("day(0)", x.day(0), true);
        due.is("not open", x.made(0, 0), Due.NO_NUMBER);
    }

    private int day;
    private StringBuilder text;
    private int tests;

    private void likeRandom() {
        for (int n = 0; n < 3000; n++) {
            day = due.next(1000);
            text = new StringBuilder();
            long sum = sum(0, due.next(4) == 0 ? 8 : 3);
            String told = text.toString();
            text = new StringBuilder();
            boolean holds = test(0, 3);
            String tested = text.toString();
            if (told.length() + tested.length() > 750) {
                continue;
            }
            tests++;
            // Brought into 0 .. 100000, to be seen.
            RoadDeals x = told("worth (" + told + ")%9973 when " + tested);
            x.day(day);
            long want = holds ? Math.floorMod(sum, 9973L) : Due.NO_NUMBER;
            due.is("(" + told + ")%9973 when " + tested + " on " + day, x.made(0, 0), want);
        }
        due.is("enough", tests > 2000, true);
    }

    private static long capped(long value) {
        return value > 1000000000L ? 1000000000L : value < -1000000000L ? -1000000000L : value;
    }

    private void blank() {
        if (due.next(3) == 0) {
            text.append(due.next(2) == 0 ? " " : "\n");
        }
    }

    private long sum(int open, int size) {
        long value = product(open, size);
        while (due.next(3) == 0) {
            boolean plus = due.next(2) == 0;
            blank();
            text.append(plus ? '+' : '-');
            blank();
            long next = product(open, size);
            value = capped(plus ? value + next : value - next);
        }
        return value;
    }

    private long product(int open, int size) {
        long value = part(open, size);
        while (due.next(3) == 0) {
            int sign = due.next(3);
            text.append("*/%".charAt(sign));
            long next = part(open, size);
            if (sign == 0) {
                value = capped(value * next);
            } else if (next == 0) {
                value = 0;
            } else {
                long whole = (long) Math.floor((double) value / (double) next);
                value = sign == 1 ? whole : value - whole * next;
            }
        }
        return value;
    }

    private long part(int open, int size) {
        int kind = due.next(open >= size || open >= 7 ? 5 : 8);
        switch (kind) {
            case 0:
                text.append("day");
                return day;
            case 1:
                text.append("week");
                return day / 7;
            case 2:
                text.append("wday");
                return day % 7;
            case 3:
                int who = due.next(3);
                text.append("alone ").append((char) ('a' + who));
                return ALONE[who];
            case 4:
                int number = due.next(due.next(2) == 0 ? 10 : 10000);
                text.append(number);
                return number;
            case 5:
                text.append('(');
                blank();
                long inside = sum(open + 1, size);
                text.append(')');
                return inside;
            default:
                text.append(kind == 6 ? "min" : "max");
                blank();
                text.append('(');
                long one = sum(open + 1, size);
                text.append(',');
                long other = sum(open + 1, size);
                text.append(')');
                return kind == 6 ? Math.min(one, other) : Math.max(one, other);
        }
    }

    private boolean test(int open, int size) {
        boolean value = both(open, size);
        while (due.next(3) == 0) {
            text.append(" or ");
            value = both(open, size) | value;
        }
        return value;
    }

    private boolean both(int open, int size) {
        boolean value = fact(open, size);
        while (due.next(3) == 0) {
            text.append(" and ");
            value = fact(open, size) & value;
        }
        return value;
    }

    private boolean fact(int open, int size) {
        int kind = due.next(open >= size ? 5 : 7);
        switch (kind) {
            case 0:
                text.append("not ");
                return !fact(open, size);
            case 1:
                text.append("all");
                return true;
            case 5:
            case 6:
                text.append('[');
                boolean inside = test(open + 1, size);
                text.append(']');
                return inside;
            default:
                long one = sum(open, size);
                int sign = due.next(3);
                blank();
                text.append("<>=".charAt(sign));
                long other = sum(open, size);
                return sign == 0 ? one < other : sign == 1 ? one > other : one == other;
        }
    }
}
