import java.util.ArrayList;
import java.util.List;

/**
 * A net as it stands on one day, with slow answers straight from the words of the document: every
 * matching is looked at, every half unit is tried.
 */
final class Brute {
    int people;
    int[] alone;
    int roads;
    int[] first;
    int[] second;
    boolean[] open;
    int[] made;
    int[] doubt;
    int[][] taste;

    Brute copy() {
        Brute it = new Brute();
        it.people = people;
        it.alone = alone.clone();
        it.roads = roads;
        it.first = first.clone();
        it.second = second.clone();
        it.open = open.clone();
        it.made = made.clone();
        it.doubt = doubt.clone();
        it.taste = taste;
        return it;
    }

    /** Without roads; there is room for so many. */
    static Brute of(int people, int roads) {
        Brute it = new Brute();
        it.people = people;
        it.alone = new int[people];
        it.first = new int[roads];
        it.second = new int[roads];
        it.open = new boolean[roads];
        it.made = new int[roads];
        it.doubt = new int[roads];
        it.taste = new int[people][people];
        return it;
    }

    void add(int one, int other, int value) {
        first[roads] = one;
        second[roads] = other;
        open[roads] = true;
        made[roads] = value;
        roads++;
    }

    /** A net that looks random; each of its roads is open and has the worth that the text tells. */
    static Brute random(Due due, int people, int roads, int mostAlone, int mostGain) {
        Brute it = of(people, roads);
        for (int who = 0; who < people; who++) {
            it.alone[who] = due.next(mostAlone + 1);
        }
        boolean[][] have = new boolean[people][people];
        for (int k = 0; k < roads && it.roads < 30; k++) {
            int one = due.next(people);
            int other = due.next(people);
            if (one != other && !have[one][other]) {
                have[one][other] = true;
                have[other][one] = true;
                it.add(one, other, it.alone[one] + it.alone[other] + due.next(mostGain + 1));
                it.doubt[it.roads - 1] = due.next(3) == 0 ? due.next(5) : 0;
            }
        }
        return it;
    }

    static char name(int who) {
        return (char) ('a' + who);
    }

    /** Its text; some of what is made comes from tastes. */
    String text(Due due) {
        StringBuilder text = new StringBuilder();
        for (int who = 0; who < people; who++) {
            text.append("who ").append(name(who)).append(" alone ").append(alone[who]).append(";\n");
        }
        StringBuilder behind = new StringBuilder();
        for (int road = 0; road < roads; road++) {
            int one = first[road];
            int other = second[road];
            int worth = made[road];
            if (roads < 14 && due.next(3) == 0) {
                taste[one][other] = Math.min(worth, due.next(7)) - due.next(4);
                taste[other][one] = Math.min(worth - Math.max(0, taste[one][other]), due.next(5));
                worth -= taste[one][other] + taste[other][one];
                behind.append("taste ").append(name(one)).append(' ').append(name(other));
                behind.append(taste[one][other] < 0 ? " less " : " ").append(Math.abs(taste[one][other]));
                behind.append(";taste ").append(name(other)).append(' ').append(name(one)).append(' ');
                behind.append(taste[other][one]).append(";");
            }
            if (doubt[road] > 0) {
                int turned = due.next(2);
                behind.append("doubt ").append(name(turned == 0 ? one : other)).append(' ');
                behind.append(name(turned == 0 ? other : one)).append(' ').append(doubt[road]).append(";");
            }
            text.append("road ").append(name(one)).append(' ').append(name(other)).append(" worth ");
            text.append(worth).append(";\n");
        }
        return text.append(behind).toString();
    }

    int gain(int road) {
        return open[road] ? Math.max(0, made[road] - alone[first[road]] - alone[second[road]]) : 0;
    }

    /** All matchings, as bits of roads, those with the first roads ahead. */
    List<Integer> matchings(int set) {
        List<Integer> all = new ArrayList<>();
        addMatchings(all, 0, set, 0);
        return all;
    }

    private void addMatchings(List<Integer> all, int road, int left, int taken) {
        if (road == roads) {
            all.add(taken);
            return;
        }
        int pair = 1 << first[road] | 1 << second[road];
        if (gain(road) > 0 && (left & pair) == pair) {
            addMatchings(all, road + 1, left & ~pair, taken | 1 << road);
        }
        addMatchings(all, road + 1, left, taken);
    }

    int sum(int matching) {
        int sum = 0;
        for (int road = 0; road < roads; road++) {
            sum += (matching >> road & 1) * gain(road);
        }
        return sum;
    }

    int everybody() {
        return (1 << people) - 1;
    }

    int most(int set) {
        int most = 0;
        for (int matching : matchings(set)) {
            most = Math.max(most, sum(matching));
        }
        return most;
    }

    /** The first of the matchings that have the most. */
    int row() {
        int row = 0;
        int most = -1;
        for (int matching : matchings(everybody())) {
            if (sum(matching) > most) {
                most = sum(matching);
                row = matching;
            }
        }
        return row;
    }

    int ways() {
        int most = most(everybody());
        int ways = 0;
        for (int matching : matchings(everybody())) {
            ways += sum(matching) == most ? 1 : 0;
        }
        return ways;
    }

    int halves() {
        int[] gains = new int[roads];
        for (int road = 0; road < roads; road++) {
            gains[road] = gain(road);
        }
        return halves(gains, 0, new int[people]);
    }

    private int halves(int[] gains, int road, int[] used) {
        if (road == roads) {
            return 0;
        }
        int most = halves(gains, road + 1, used);
        int one = first[road];
        int other = second[road];
        for (int half = 1; half <= 2 && gains[road] > 0; half++) {
            if (used[one] + half <= 2 && used[other] + half <= 2) {
                used[one] += half;
                used[other] += half;
                most = Math.max(most, half * gains[road] + halves(gains, road + 1, used));
                used[one] -= half;
                used[other] -= half;
            }
        }
        return most;
    }

    /** The same, for many roads: each one of WHO points at another one, or at nobody, and nobody is pointed at twice. */
    int halvesByRows() {
        int[] most = new int[1 << people];
        for (int one = 0; one < people; one++) {
            int[] next = most.clone();
            for (int road = 0; road < roads; road++) {
                int other = first[road] == one ? second[road] : second[road] == one ? first[road] : -1;
                for (int set = 0; set <= everybody() && other >= 0; set++) {
                    if ((set >> other & 1) != 0) {
                        next[set] = Math.max(next[set], most[set & ~(1 << other)] + gain(road));
                    }
                }
            }
            most = next;
        }
        return most[everybody()];
    }

    /** Twice the shares that hold, in half units, all of them. */
    List<int[]> shares() {
        List<int[]> all = new ArrayList<>();
        int[] twice = new int[people];
        for (int who = 0; who < people; who++) {
            twice[who] = 2 * alone[who];
        }
        addShares(all, row(), 0, twice);
        return all;
    }

    private void addShares(List<int[]> all, int row, int road, int[] twice) {
        if (road == roads) {
            if (holds(twice)) {
                all.add(twice.clone());
            }
            return;
        }
        if ((row >> road & 1) == 0) {
            addShares(all, row, road + 1, twice);
            return;
        }
        int one = first[road];
        int other = second[road];
        for (int more = 0; more <= 2 * gain(road); more++) {
            twice[one] = 2 * alone[one] + more;
            twice[other] = 2 * made[road] - twice[one];
            addShares(all, row, road + 1, twice);
        }
        twice[one] = 2 * alone[one];
        twice[other] = 2 * alone[other];
    }

    private boolean holds(int[] twice) {
        for (int road = 0; road < roads; road++) {
            if (open[road] && twice[first[road]] + twice[second[road]] < 2 * made[road]) {
                return false;
            }
        }
        return true;
    }

    /** Twice the least (0) and the most (1) of one's share times a and another one's times b; null without. */
    static int[] ends(List<int[]> shares, int one, int a, int other, int b) {
        int[] ends = null;
        for (int[] twice : shares) {
            int it = a * twice[one] + b * twice[other];
            if (ends == null) {
                ends = new int[] {it, it};
            }
            ends[0] = Math.min(ends[0], it);
            ends[1] = Math.max(ends[1], it);
        }
        return ends;
    }

    /** With another worth of a road, told as what is made there; null: it is closed. */
    Brute with(int road, Integer madeThen) {
        Brute it = copy();
        it.open[road] = madeThen != null;
        it.made[road] = madeThen == null ? 0 : madeThen;
        return it;
    }

    int price(int road, int tastes) {
        Brute closed = with(road, null);
        int without = closed.most(everybody());
        int rest = closed.most(everybody() & ~(1 << first[road]) & ~(1 << second[road]));
        for (int worth = 0; ; worth++) {
            int gain = worth + tastes - alone[first[road]] - alone[second[road]];
            if (gain + rest >= without) {
                return worth;
            }
        }
    }

    /** Shares of deals told by hand: has[road] null without a deal. */
    int[] share(Integer[] has) {
        int[] share = alone.clone();
        for (int road = 0; road < roads; road++) {
            if (has[road] != null && open[road]) {
                share[first[road]] = has[road];
                share[second[road]] = made[road] - has[road];
            }
        }
        return share;
    }

    int elseOf(Integer[] has, int who) {
        int[] share = share(has);
        int most = alone[who];
        for (int road = 0; road < roads; road++) {
            boolean isDeal = has[road] != null;
            if (open[road] && !isDeal && (first[road] == who || second[road] == who)) {
                most = Math.max(most, made[road] - share[first[road] + second[road] - who]);
            }
        }
        return most;
    }

    int turnsTo(Integer[] has, int who) {
        int[] share = share(has);
        int most = elseOf(has, who);
        int to = people;
        for (int road = 0; road < roads; road++) {
            if (open[road] && has[road] == null && (first[road] == who || second[road] == who)) {
                int other = first[road] + second[road] - who;
                if (made[road] - share[other] == most) {
                    to = Math.min(to, other);
                }
            }
        }
        return most == alone[who] ? -1 : to;
    }

    int even(Integer[] has, int road) {
        int firstElse = elseOf(has, first[road]);
        double left = made[road] - firstElse - elseOf(has, second[road]);
        return firstElse + (int) Math.floor(left / 2);
    }

    int gift(Integer[] has) {
        int[] lack = new int[people];
        int[] share = share(has);
        int from = 0;
        for (int who = 0; who < people; who++) {
            lack[who] = 2 * Math.max(0, alone[who] - share[who]);
            from += lack[who];
        }
        for (int sum = from; ; sum++) {
            if (canGive(share, lack, new int[people], 0, sum)) {
                return sum;
            }
        }
    }

    /** For numbers too great to be tried: what two lack beside what lone ones get is at most given by halves. */
    int giftByHalves(Integer[] has) {
        int[] share = share(has);
        int[] lacks = new int[roads];
        int twice = 0;
        for (int who = 0; who < people; who++) {
            twice += 2 * Math.max(0, alone[who] - share[who]);
            share[who] = Math.max(alone[who], share[who]);
        }
        for (int road = 0; road < roads; road++) {
            int have = share[first[road]] + share[second[road]];
            lacks[road] = open[road] ? Math.max(0, made[road] - have) : 0;
        }
        return twice + halves(lacks, 0, new int[people]);
    }

    private boolean canGive(int[] share, int[] lack, int[] twice, int who, int left) {
        if (who == people) {
            for (int road = 0; road < roads; road++) {
                int one = first[road];
                int other = second[road];
                int have = 2 * share[one] + twice[one] + 2 * share[other] + twice[other];
                if (open[road] && have < 2 * made[road]) {
                    return false;
                }
            }
            return true;
        }
        for (int more = lack[who]; more <= left; more++) {
            twice[who] = more;
            if (canGive(share, lack, twice, who + 1, left - more)) {
                return true;
            }
        }
        return false;
    }
}
