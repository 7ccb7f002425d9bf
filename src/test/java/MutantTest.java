/** Promises 4 and 5 on texts with something changed, beside a second reader; then any calls at all: none throws. */
public final class MutantTest {
    private static final String[] WORDS = {"who", "alone", "road", "worth", "when", "taste", "less", "doubt", "or",
        "and", "not", "all", "day", "week", "wday", "min", "max", "a", "b", "c", "d", "7", "12", "9999", "(", ")",
        "[", "]", "<", ">", "=", "+", "-", "*", "/", "%", ",", ";", "x", "abcdefg", "12345", "5abcdefg", "b12345", "!", " ", "\n"};
    private static final String[] STARTS = {
        "who a alone 1;who b alone 2;who c alone 3;road a b worth min(day,max(2,wday))+3*(4-week) "
            + "when not [day<4 or all] and 3*day>2;road c b worth 1;taste a b 4;taste b a less 2;doubt b a 3;",
        "who a alone 0;who b alone 12;road b a worth ((((((((1)))))))) when [[[[[[[all]]]]]]] or 1=(2);doubt a b 1;",
        "who abcdef alone 9999;who b alone 1;taste b abcdef less 7;road b abcdef worth alone abcdef%alone b;"};

    private final Due due = new Due("MutantTest");

    public static void main(String[] args) {
        MutantTest test = new MutantTest();
        for (int n = 0; n < 40000; n++) {
            test.mutant();
        }
        for (int n = 0; n < 400; n++) {
            test.anyCalls();
        }
        test.due.end();
    }

    private String changed(String text) {
        int from = due.next(text.length() + 1);
        int to = Math.min(text.length(), from + due.next(6));
        switch (due.next(6)) {
            case 0: return text.substring(0, from) + text.substring(Math.min(text.length(), from + 1));
            case 1: return text.substring(0, from) + WORDS[due.next(WORDS.length)] + text.substring(from);
            case 2: return text.substring(0, from) + WORDS[due.next(WORDS.length)] + text.substring(to);
            case 3: return text.substring(0, from) + text.substring(to);
            case 4: return text.substring(0, to) + text.substring(from);
            default: return text.substring(0, from) + " " + WORDS[due.next(WORDS.length)] + " " + text.substring(from);
        }
    }

    private void mutant() {
        String text = STARTS[due.next(STARTS.length)];
        for (int k = due.next(4); k >= 0; k--) {
            text = changed(text);
        }
        if (text.length() > 880) {
            return;
        }
        Reading reading = new Reading(text);
        RoadDeals x = new RoadDeals();
        due.is("text '" + text + "'", Due.told(x, text), reading.statements);
        due.is("fault(0) '" + text + "'", x.fault(0), reading.fault);
        due.is("fault(1) '" + text + "'", x.fault(1), reading.place);
    }

    private int any() {
        switch (due.next(12)) {
            case 0: return Integer.MIN_VALUE;
            case 1: return Integer.MAX_VALUE;
            case 2: return -1 - due.next(3);
            case 3: return due.next(1000);
            case 4: return due.next(2000001) - 1000000;
            default: return due.next(13);
        }
    }

    private boolean either() {
        return due.next(2) == 0;
    }

    private void anyCalls() {
        RoadDeals x = new RoadDeals();
        for (int n = 0; n < 512; n++) {
            int kind = due.next(44);
            if (kind < 3) {
                Brute net = Brute.random(due, 1 + due.next(12), due.next(50), 9, 40);
                String text = net.people < 2 ? "who a alone 1;" : net.text(due);
                Due.told(x, either() ? text : changed(text));
            } else if (kind < 5) {
                x.image();
                byte[] bytes = new byte[60];
                int length = 0;
                for (; x.octet(length) >= 0; length++) {
                    bytes[length] = (byte) x.octet(length);
                }
                bytes[due.next(60)] += either() ? 1 : 0;
                Due.feed(x, java.util.Arrays.copyOf(bytes, length));
                x.on();
            } else {
                anyCall(x, kind);
            }
        }
    }

    private int anyCall(RoadDeals x, int kind) {
        switch (kind) {
            case 5: return x.feed(any(), any(), any(), any(), any());
            case 6: return x.end(any()) ? 1 : 0;
            case 7: return x.fault(any());
            case 8: return x.has(any());
            case 9: return x.letter(any(), any());
            case 10: return x.road(any(), any());
            case 11: return x.day(any()) ? 1 : 0;
            case 12: return x.worth(any(), any());
            case 13: return x.annul(any());
            case 14: return x.as(any()) ? 1 : 0;
            case 15: return x.made(any(), any());
            case 16: return x.most(either());
            case 17: return x.row(any());
            case 18: return x.end(any(), either());
            case 19: return x.of(any());
            case 20: return x.moves(any(), any());
            case 21: return x.pays(any());
            case 22: return x.two(any(), any(), either(), either());
            case 23: return x.price(any());
            case 24: return x.ways();
            case 25: return x.undeal(any());
            case 26: return x.dealRow();
            case 27: return x.share(any());
            case 28: return x.money(any());
            case 29: return x.other(any(), either());
            case 30: return x.chain(any(), any());
            case 31: return x.breaks();
            case 32: return x.away();
            case 33: return x.uneven();
            case 34: return x.haggle(any());
            case 35: return x.ended();
            case 36: return x.gift();
            case 37: return x.surely();
            case 38: return x.octet(any());
            default: return x.deal(any(), any());
        }
    }
}
