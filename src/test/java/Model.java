import java.util.ArrayList;
import java.util.Arrays;
import java.util.List;

/**
 * What is asked of a whole object, held as plainly as can be: nothing is kept but what was told, and each answer
 * is reckoned anew from it, by Brute.
 */
final class Model {
    private static final int NO_NUMBER = Due.NO_NUMBER;

    private int people;
    private int roads;
    private int tastes;
    private int doubts;
    private int[] alone = {};
    private int[][] taste = {};
    private int[] doubt = {};
    // Of each road: its two, the numbers a, b, c of a worth a + b * (day % c), and the d of a test day % d < 2.
    private int[][] told = {};
    // Of each act: the road (NONE: it tells that another one is void) and the worth, or the other one's number.
    private final List<int[]> acts = new ArrayList<>();
    private Integer[] deals = {};
    private int as = -1;
    private int day;
    private int ended = -1;
    private byte[] image = {};

    /** A net as a text that becomes this model's, with no two tastes or roads of the same two. */
    String newText(Due due, int people) {
        this.people = people;
        alone = new int[people];
        taste = new int[people][people];
        StringBuilder text = new StringBuilder();
        for (int who = 0; who < people; who++) {
            alone[who] = due.next(5);
            text.append("who ").append(Brute.name(who)).append(" alone ").append(alone[who]).append(';');
        }
        List<int[]> all = new ArrayList<>();
        boolean[][] have = new boolean[people][people];
        for (int n = due.next(10); n > 0 && people > 1; n--) {
            int one = due.next(people);
            int other = due.next(people);
            if (one != other && !have[one][other]) {
                have[one][other] = true;
                have[other][one] = true;
                all.add(newRoad(due, text, one, other));
            }
        }
        told = all.toArray(new int[0][]);
        roads = told.length;
        newTastes(due, text);
        newDoubts(due, text);
        acts.clear();
        deals = new Integer[roads];
        as = -1;
        return text.toString();
    }

    private int[] newRoad(Due due, StringBuilder text, int one, int other) {
        int[] road = {one, other, due.next(12), due.next(3), 1 + due.next(4), 2 + due.next(4)};
        text.append("road ").append(Brute.name(one)).append(' ').append(Brute.name(other)).append(" worth ");
        text.append(road[2]).append('+').append(road[3]).append("*(day%").append(road[4]).append(')');
        // day % 2 < 2 always holds.
        if (road[5] > 2) {
            text.append(" when day%").append(road[5]).append("<2");
        }
        text.append(';');
        return road;
    }

    private void newTastes(Due due, StringBuilder text) {
        tastes = 0;
        for (int one = 0; one < people; one++) {
            for (int other = 0; other < people; other++) {
                if (one != other && due.next(6) == 0 && tastes < 8) {
                    taste[one][other] = due.next(7) - 2;
                    text.append("taste ").append(Brute.name(one)).append(' ').append(Brute.name(other));
                    text.append(taste[one][other] < 0 ? " less " : " ").append(Math.abs(taste[one][other]));
                    text.append(';');
                    tastes++;
                }
            }
        }
    }

    private void newDoubts(Due due, StringBuilder text) {
        doubts = 0;
        doubt = new int[roads];
        for (int n = due.next(4); n > 0 && roads > 0; n--) {
            int road = due.next(roads);
            int turned = due.next(2);
            doubt[road] = due.next(5);
            text.append("doubt ").append(Brute.name(told[road][turned])).append(' ');
            text.append(Brute.name(told[road][1 - turned])).append(' ').append(doubt[road]).append(';');
            doubts++;
        }
    }

    int statements() {
        return people + roads + tastes + doubts;
    }

    int people() {
        return people;
    }

    int roads() {
        return roads;
    }

    int acts() {
        return acts.size();
    }

    private int known() {
        return as < 0 ? acts.size() : as;
    }

    int has(int what) {
        int count = 0;
        for (Integer first : deals) {
            count += first == null ? 0 : 1;
        }
        int[] all = {people, roads, tastes, doubts, acts.size(), known(), count, day};
        return what < 0 || what > 7 ? -1 : all[what];
    }

    private boolean isRoad(int road) {
        return road >= 0 && road < roads;
    }

    boolean isSomebody(int who) {
        return who >= 0 && who < people;
    }

    boolean day(int n) {
        if (n < 0 || n > 999) {
            return false;
        }
        day = n;
        return true;
    }

    int worth(int road, int n) {
        if (!isRoad(road) || n < -2 || n > 100000 || acts.size() == 200) {
            return -1;
        }
        acts.add(new int[] {road, n});
        return acts.size();
    }

    int annul(int act) {
        if (act < 1 || act > acts.size() || acts.get(act - 1)[0] < 0 || acts.size() == 200) {
            return -1;
        }
        for (int[] it : acts) {
            if (it[0] < 0 && it[1] == act) {
                return -1;
            }
        }
        acts.add(new int[] {-1, act});
        return acts.size();
    }

    boolean as(int act) {
        if (act < -1 || act > acts.size()) {
            return false;
        }
        as = act;
        return true;
    }

    /** The worth of a road now; -1, if it is not open. */
    private int worthNow(int road) {
        List<int[]> left = new ArrayList<>(acts.subList(0, known()));
        for (int[] it : acts.subList(0, known())) {
            if (it[0] < 0) {
                left.set(it[1] - 1, it);
            }
        }
        int worth = -2;
        for (int[] it : left) {
            worth = it[0] == road ? it[1] : worth;
        }
        int[] text = told[road];
        return worth != -2 ? worth : day % text[5] < 2 ? text[2] + text[3] * (day % text[4]) : -1;
    }

    int tastes(int road) {
        return taste[told[road][0]][told[road][1]] + taste[told[road][1]][told[road][0]];
    }

    Brute now() {
        Brute net = Brute.of(people, roads);
        net.alone = alone;
        net.taste = taste;
        net.doubt = doubt;
        for (int road = 0; road < roads; road++) {
            int worth = worthNow(road);
            net.add(told[road][0], told[road][1], worth >= 0 ? worth + tastes(road) : 0);
            net.open[road] = worth >= 0;
        }
        return net;
    }

    int deal(int road, int first) {
        if (!isRoad(road) || Math.abs((long) first) > 1000000 || worthNow(road) < 0) {
            return -1;
        }
        for (int other = 0; other < roads; other++) {
            if (other != road && deals[other] != null && (pair(other) & pair(road)) != 0) {
                return -1;
            }
        }
        deals[road] = first;
        return has(6);
    }

    private int pair(int road) {
        return 1 << told[road][0] | 1 << told[road][1];
    }

    int undeal(int road) {
        if (!isRoad(road) || deals[road] == null) {
            return -1;
        }
        deals[road] = null;
        return has(6);
    }

    int dealRow() {
        Brute net = now();
        int row = net.row();
        for (int road = 0; road < roads; road++) {
            boolean inRow = (row >> road & 1) != 0;
            deals[road] = inRow ? Integer.valueOf(alone[told[road][0]] + net.gain(road) / 2) : null;
        }
        return has(6);
    }

    /** The deals that are ones now. */
    Integer[] dealsNow() {
        Integer[] open = deals.clone();
        for (int road = 0; road < roads; road++) {
            open[road] = worthNow(road) < 0 ? null : open[road];
        }
        return open;
    }

    int haggle(int rounds) {
        if (rounds < 1 || rounds > 1000) {
            return -1;
        }
        Brute net = now();
        Integer[] open = dealsNow();
        List<Integer[]> past = new ArrayList<>();
        ended = 2;
        int gone = 0;
        while (gone < rounds && ended == 2) {
            past.add(open.clone());
            for (int road = 0; road < roads; road++) {
                open[road] = open[road] == null ? null : Integer.valueOf(net.even(open, road));
                deals[road] = open[road] == null ? deals[road] : open[road];
            }
            gone++;
            for (int n = 0; n < past.size() && ended == 2; n++) {
                if (Arrays.equals(past.get(n), open)) {
                    ended = n == past.size() - 1 ? 0 : 1;
                }
            }
        }
        return ended == 2 ? -2 - rounds : gone;
    }

    int ended() {
        return ended;
    }

    int image() {
        StringBuilder bytes = new StringBuilder();
        bytes.append((char) roads).append((char) (day >> 8)).append((char) (day & 255));
        for (Integer first : deals) {
            if (first == null) {
                bytes.append((char) 255);
            } else {
                bytes.append((char) 1);
                for (int shift = 24; shift >= 0; shift -= 8) {
                    bytes.append((char) (first >> shift & 255));
                }
            }
        }
        image = checked(bytes.toString());
        return image.length;
    }

    static byte[] checked(String bytes) {
        byte[] all = new byte[bytes.length() + 2];
        long check = 1;
        for (int k = 0; k < bytes.length(); k++) {
            all[k] = (byte) bytes.charAt(k);
            check = (31 * check + bytes.charAt(k)) % 65521;
        }
        all[bytes.length()] = (byte) (check / 256);
        all[bytes.length() + 1] = (byte) check;
        return all;
    }

    int octet(int k) {
        return k < 0 || k >= image.length ? -1 : image[k] & 255;
    }

    byte[] bytes() {
        return image.clone();
    }

    /** Takes the image apart from its front, and looks whether it would be written so. */
    boolean on(byte[] tape) {
        if (tape.length < 5 || (tape[0] & 255) != roads) {
            return false;
        }
        int then = (tape[1] & 255) * 256 + (tape[2] & 255);
        Integer[] other = new Integer[roads];
        int at = 3;
        int taken = 0;
        for (int road = 0; road < roads; road++) {
            if (at + 4 < tape.length && tape[at] == 1) {
                other[road] = (int) new java.math.BigInteger(tape, at + 1, 4).longValue();
                if (Math.abs((long) other[road]) > 1000000 || (taken & pair(road)) != 0) {
                    return false;
                }
                taken |= pair(road);
                at += 4;
            }
            at++;
        }
        Model it = new Model();
        it.roads = roads;
        it.day = then;
        it.deals = other;
        it.image();
        if (then > 999 || !Arrays.equals(it.image, tape)) {
            return false;
        }
        day = then;
        deals = other;
        return true;
    }
}
