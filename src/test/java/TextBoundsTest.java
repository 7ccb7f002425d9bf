import java.util.Arrays;

/**
 * Promises 1 to 8 and part I of the terms: each sentence that names a limit, what is empty or full, or a refused
 * call has a test of its own, which stands under its words.
 */
public final class TextBoundsTest {
    private static final int[] FAR = {Integer.MIN_VALUE, Integer.MIN_VALUE + 1, -1000, -3, -2, -1};
    private static final String ABC = "who a alone 1;who b alone 2;who c alone 3;";
    private static final String AB = ABC + "road a b worth 5;";

    private final Due due = new Due("TextBoundsTest");

    public static void main(String[] args) {
        TextBoundsTest test = new TextBoundsTest();
        test.aNewObject();
        test.feedsUpToNineHundred();
        test.feedsTheHighestFirst();
        test.endsWithinTheTape();
        test.textOfAnEmptyTape();
        test.textOfAFullTape();
        test.theTapeGoes();
        test.allStaysWithAFault();
        test.allIsAnewWithoutOne();
        test.actsAreAnew();
        test.manyLongTexts();
        test.faults();
        test.numbersOfThings();
        test.letters();
        test.roads();
        test.blanks();
        test.lettersAndDigits();
        test.seventhLetters();
        test.fifthDigits();
        test.sideBySide();
        test.ownWords();
        test.tooSoon();
        test.firstAndLastBytes();
        test.namesGiven();
        test.namesOfNobody();
        test.oneTooMany();
        test.ninthOpen();
        test.muchThatWaits();
        test.manySumsAndTests();
        test.sumsOfBillions();
        test.byNothing();
        test.below();
        test.worthOfASum();
        test.due.end();
    }

    /** "Nobody, no ROADS; DAY 0." */
    private void aNewObject() {
        RoadDeals x = new RoadDeals();
        for (int what = 0; what < 8; what++) {
            due.is("has(" + what + ")", x.has(what), 0);
        }
        due.is("letter", x.letter(0, 0), -1);
        due.is("road", x.road(0, 0), -1);
        due.is("made", x.made(0, 0), Due.NO_NUMBER);
        due.is("share", x.share(0), Due.NO_NUMBER);
        due.is("the tape is empty", x.end(1), false);
        due.is("the tape is empty", x.end(0), true);
    }

    /** "how many there are; NONE, doing nothing, if there would be more than 900" */
    private void feedsUpToNineHundred() {
        RoadDeals x = new RoadDeals();
        for (int n = 20; n <= 880; n += 20) {
            due.is("feed", x.feed(0x20202020, 0x20202020, 0x20202020, 0x20202020, 0x20202020), n);
        }
        // "who abcd alone 1234;" fills the tape.
        due.is("the 900th", x.feed(0x77686f20, 0x61626364, 0x20616c6f, 0x6e652031, 0x3233343b), 900);
        due.is("a 901st", x.feed(0x21212121, 0, 0, 0, 0), -1);
        due.is("a 901st", x.feed(0, 0, 0, 0, 0), -1);
        due.is("doing nothing", x.end(901), false);
        due.is("doing nothing", x.end(900), true);
        due.is("what was there is", x.text(), 1);
        due.is("to its last letter", x.letter(0, 3), 'd');
        for (int n = 881; n <= 900; n++) {
            RoadDeals y = new RoadDeals();
            Due.feed(y, " ".repeat(n));
            due.is("20 behind " + n, y.feed(0, 0, 0, 0, 0), -1);
            due.is("doing nothing", y.end(n) && !y.end(n + 1), true);
            due.is("blanks alone", y.text(), 0);
        }
        RoadDeals y = new RoadDeals();
        Due.feed(y, " ".repeat(880));
        due.is("20 behind 880", y.feed(0, 0, 0, 0, 0), 900);
        due.is("these do count", y.text(), -1);
        due.is("from the first on", y.fault(1), 880);
    }

    /** "of each number the highest first", also of numbers below 0 */
    private void feedsTheHighestFirst() {
        int[] five = new int[5];
        for (int k = 0; k < 20; k++) {
            for (int bit = 0; bit < 8; bit++) {
                Arrays.fill(five, 0x20202020);
                // Another bit than the blank's alone: no text goes on there.
                five[k / 4] ^= 1 << 24 - 8 * (k % 4) + bit;
                RoadDeals x = new RoadDeals();
                x.feed(five[0], five[1], five[2], five[3], five[4]);
                due.is("bit " + bit + " of byte " + k, x.text(), -1);
                due.is("its place", x.fault(1), k);
            }
        }
    }

    /** "The tape has its first n bytes alone: true; false, doing nothing, if it has not so many, or n is below 0." */
    private void endsWithinTheTape() {
        RoadDeals x = new RoadDeals();
        due.is("end(0) of none", x.end(0), true);
        due.is("end(1) of none", x.end(1), false);
        Due.feed(x, "who a alone 5;who b alone 6;");
        for (int n : FAR) {
            due.is("end(" + n + ")", x.end(n), false);
        }
        due.is("end(29) of 28", x.end(29), false);
        due.is("end(MAX)", x.end(Integer.MAX_VALUE), false);
        due.is("end(900) of 28", x.end(900), false);
        due.is("doing nothing", x.end(28), true);
        due.is("text", x.text(), 2);
        Due.feed(x, "who a alone 5;who b alone 6;");
        due.is("end(14)", x.end(14), true);
        due.is("end(28) then", x.end(28), false);
        due.is("the first bytes alone", x.text(), 1);
        Due.feed(x, "who a alone 5;who b alone 6;");
        due.is("end(0)", x.end(0), true);
        due.is("nothing is left", x.text(), 0);
    }

    /** An empty tape is a text of no STATEMENTS. */
    private void textOfAnEmptyTape() {
        RoadDeals x = Due.with(AB);
        due.is("empty", x.text(), 0);
        due.is("fault(0)", x.fault(0), 0);
        due.is("fault(1)", x.fault(1), -1);
        due.is("nobody", x.has(0), 0);
        due.is("no roads", x.has(1), 0);
        due.is("again", x.text(), 0);
        due.right(" ", 0);
        due.right("\n", 0);
        due.right(" ".repeat(899) + "\n", 0);
    }

    private void textOfAFullTape() {
        String text = AB + "road a c worth 1+";
        String full = text + "1+".repeat((898 - text.length()) / 2) + (text.length() % 2 == 0 ? "1;" : "11;");
        due.is("full", full.length(), 900);
        due.right(full, 5);
        due.right(" ".repeat(900 - AB.length()) + AB, 4);
        due.right(AB + " ".repeat(900 - AB.length()), 4);
        due.wrong(1, full.substring(0, 899) + "|,");
        due.wrong(1, full.substring(0, 899) + "1|");
        due.wrong(1, full.substring(0, 899) + "+|");
        due.wrong(1, AB + " ".repeat(899 - AB.length()) + "|;");
        due.wrong(1, "|" + ";".repeat(900));
        due.wrong(1, "|" + "7 ".repeat(450));
        due.wrong(1, "abcdef|" + "g".repeat(894));
        due.wrong(1, " ".repeat(897) + "who|");
        due.wrong(1, "who" + " ".repeat(897) + "|");
        // Not so many bytes have room for more of it.
        RoadDeals x = Due.with(ABC + "road a b worth 1 when " + "not ".repeat(208) + "all;");
        due.is("so often turned", x.made(0, 0), 1);
        x = Due.with(ABC + "road a b worth 1 when " + "not ".repeat(207) + "all;");
        due.is("once less", x.made(0, 0), Due.NO_NUMBER);
        x = Due.with(ABC + "road a b worth 3" + "+7".repeat(417) + ";");
        due.is("so many to be added", x.made(0, 0), 3 + 7 * 417);
    }

    /** "The tape (it goes, refused or not) is THE TEXT" */
    private void theTapeGoes() {
        RoadDeals x = new RoadDeals();
        String[] all = {AB, "who a alone 1;who", "", " ".repeat(900), "x".repeat(900)};
        for (String text : all) {
            Due.told(x, text);
            due.is("it went", x.end(1), false);
            due.is("feed from its start", x.feed(0x20202020, 0x20202020, 0x20202020, 0x20202020, 0x20202020), 20);
            due.is("a text of its own", x.text(), 0);
        }
    }

    /** "NONE with a FAULT (all stays)", whatever of the text was right until then */
    private void allStaysWithAFault() {
        String begun = "who z alone 9;who y alone 8;who x alone 7;road z y worth 77;taste z y 5;doubt y z 6;";
        String[] wrong = {"|?", begun + "|x", begun + "who |z", begun + "road y |z", begun + "road x |w",
            begun + "taste z |y", begun + "doubt z |x", begun + "road x z worth 5|", begun + "who w alone 1234|5;",
            TextTest.people(12) + "|who"};
        for (String marked : wrong) {
            RoadDeals x = Seen.full();
            x.end(0);
            int[] before = Seen.of(x);
            int place = marked.indexOf('|');
            String text = marked.substring(0, place) + marked.substring(place + 1);
            due.is("text", Due.told(x, text), -1);
            due.is("fault(1)", x.fault(1), place);
            due.is("all stays with a fault in '" + marked + "'", Arrays.equals(Seen.of(x), before), true);
            due.is("but the tape", x.end(1), false);
        }
    }

    /** "Without one there are no ACTS, no DEALS, as() is NONE (the DAY stays)." */
    private void allIsAnewWithoutOne() {
        RoadDeals x = Seen.full();
        x.end(0);
        due.is("acts", x.has(4), 4);
        due.is("as", x.has(5), 2);
        due.is("deals", x.has(6), 2);
        due.is("text", Due.told(x, AB), 4);
        due.is("no acts", x.has(4), 0);
        due.is("as the last one", x.has(5), 0);
        due.is("no deals", x.has(6), 0);
        due.is("the day stays", x.has(7), 3);
        due.is("no act's worth", x.made(0, 0), 5);
        due.is("no taste", x.money(0), 1);
        due.is("no doubt", x.made(0, 2), 0);
        due.is("no deal", x.share(0), 1);
        due.is("no deal", x.undeal(0), -1);
        due.is("as(1)", x.as(1), false);
        due.is("an act", x.worth(0, 9), 1);
        due.is("known at once", x.made(0, 0), 9);
        due.is("as the last one", x.has(5), 1);
        due.is("ended stays", x.ended() >= 0, true);
        due.is("the image stays", x.octet(0), 4);
        due.is("a text of nobody", Due.told(x, ""), 0);
        due.is("no acts", x.has(4), 0);
        due.is("the day stays", x.has(7), 3);
    }

    /** What was VOID before a text is not so behind it. */
    private void actsAreAnew() {
        RoadDeals x = Due.with(AB);
        x.worth(0, 50);
        x.worth(0, 60);
        due.is("annul", x.annul(1), 3);
        due.is("annul", x.annul(2), 4);
        due.is("text", Due.told(x, AB), 4);
        due.is("worth", x.worth(0, 70), 1);
        due.is("worth", x.worth(0, 80), 2);
        due.is("worth", x.worth(0, 90), 3);
        due.is("not void", x.made(0, 0), 90);
        due.is("annul", x.annul(3), 4);
        due.is("not void", x.made(0, 0), 80);
        due.is("annul", x.annul(2), 5);
        due.is("not void", x.made(0, 0), 70);
        due.is("annul", x.annul(1), 6);
        due.is("all void", x.made(0, 0), 5);
    }

    /** The sums of a text have room, however many texts were ahead. */
    private void manyLongTexts() {
        RoadDeals x = new RoadDeals();
        String sum = "+9".repeat(300);
        for (int n = 0; n < 12; n++) {
            int worth = 1 + n;
            due.is("text " + n, Due.told(x, ABC + "road a b worth " + worth + sum + ";"), 4);
            due.is("made by text " + n, x.made(0, 0), worth + 2700);
            if (n % 3 == 0) {
                due.is("refused " + n, Due.told(x, ABC + "road a b worth " + worth + sum), -1);
                due.is("made by text " + n, x.made(0, 0), worth + 2700);
            }
        }
    }

    /** "its FAULT (what 0; 0 without, and ahead of any), its place (1; NONE without). NONE for another what." */
    private void faults() {
        RoadDeals x = new RoadDeals();
        fault(x, 0, -1);
        due.is("right", Due.told(x, AB), 4);
        fault(x, 0, -1);
        due.is("wrong", Due.told(x, "who a alone 1;who a"), -1);
        fault(x, 2, 18);
        Due.feed(x, "who");
        fault(x, 2, 18);
        due.is("on is no text", x.on(), false);
        fault(x, 2, 18);
        due.is("wrong at 0", Due.told(x, ","), -1);
        fault(x, 1, 0);
        due.is("right", Due.told(x, ""), 0);
        fault(x, 0, -1);
        due.is("wrong", Due.told(x, "road a"), -1);
        fault(x, 3, 5);
        due.is("wrong", Due.told(x, TextTest.people(12) + "who"), -1);
        fault(x, 5, 168);
        due.is("right", Due.told(x, AB), 4);
        fault(x, 0, -1);
    }

    private void fault(RoadDeals x, int kind, int place) {
        due.is("fault(0)", x.fault(0), kind);
        due.is("fault(1)", x.fault(1), place);
        for (int what : new int[] {-1, 2, 3, 256, Integer.MAX_VALUE, Integer.MIN_VALUE}) {
            due.is("fault(" + what + ")", x.fault(what), -1);
        }
    }

    /** "NONE for others." */
    private void numbersOfThings() {
        RoadDeals x = Seen.full();
        int[] all = {4, 4, 3, 2, 4, 2, 2, 3};
        for (int what = 0; what < 8; what++) {
            due.is("has(" + what + ")", x.has(what), all[what]);
        }
        for (int what : new int[] {-1, 8, 9, 256, Integer.MAX_VALUE, Integer.MIN_VALUE}) {
            due.is("has(" + what + ")", x.has(what), -1);
        }
        // "6 DEALS told (OPEN now or not)"
        x.worth(0, -1);
        x.worth(2, -1);
        x.as(-1);
        due.is("not open", x.made(0, 0), Due.NO_NUMBER);
        due.is("told", x.has(6), 2);
        due.is("acts", x.has(4), 6);
        // "5 the ACT as known at which all is told"
        due.is("the last one", x.has(5), 6);
        x.as(0);
        due.is("none", x.has(5), 0);
        x.as(6);
        x.worth(0, 1);
        due.is("not the last one", x.has(5), 6);
        // All there may be of each.
        x = Due.with(TextTest.people(12) + TextTest.pairs("taste", " 1", 24, false) + "road a b worth 1;"
                + "doubt b a 1;".repeat(24));
        due.is("12 of who", x.has(0), 12);
        due.is("24 tastes", x.has(2), 24);
        due.is("24 doubts", x.has(3), 24);
        x = Due.with(TextTest.people(12) + TextTest.pairs("road", " worth 1", 30, true));
        due.is("30 roads", x.has(1), 30);
    }

    /** "Letter k of a NAME, 97 .. 122; NONE if there is none such." */
    private void letters() {
        RoadDeals x = Due.with("who a alone 0;who z alone 0;who az alone 0;who zzzzzz alone 0;who aaaaaa alone 0;"
                + "who aaaaaz alone 0;who zaaaaa alone 0;who whoall alone 0;");
        String[] names = {"a", "z", "az", "zzzzzz", "aaaaaa", "aaaaaz", "zaaaaa", "whoall"};
        for (int who = 0; who < names.length; who++) {
            for (int k = -2; k < 9; k++) {
                boolean is = k >= 0 && k < names[who].length();
                due.is("letter " + who + ", " + k, x.letter(who, k), is ? names[who].charAt(k) : -1);
            }
            due.is("far", x.letter(who, Integer.MAX_VALUE), -1);
            due.is("far", x.letter(who, Integer.MIN_VALUE), -1);
        }
        for (int who : new int[] {-1, 8, 9, 11, 12, 13, Integer.MAX_VALUE, Integer.MIN_VALUE}) {
            due.is("letter of " + who, x.letter(who, 0), -1);
        }
        x = Due.with(TextTest.people(12));
        due.is("the twelfth", x.letter(11, 0), 'l');
        due.is("a thirteenth", x.letter(12, 0), -1);
    }

    /** "One of a ROAD's two (0 the first, 1 the second), by number; NONE for others, or if there is none such." */
    private void roads() {
        RoadDeals x = Due.with(TextTest.people(12) + "road l k worth 1;"
                + TextTest.pairs("road", " worth 1", 29, true));
        due.is("the first's first", x.road(0, 0), 11);
        due.is("the first's second", x.road(0, 1), 10);
        due.is("the thirtieth's first", x.road(29, 0), 2);
        due.is("the thirtieth's second", x.road(29, 1), 10);
        for (int which : new int[] {-1, 2, 3, Integer.MAX_VALUE, Integer.MIN_VALUE}) {
            due.is("which " + which, x.road(0, which), -1);
            due.is("which " + which, x.road(29, which), -1);
        }
        for (int road : new int[] {-1, 30, 31, Integer.MAX_VALUE, Integer.MIN_VALUE}) {
            due.is("road " + road, x.road(road, 0), -1);
            due.is("road " + road, x.road(road, 1), -1);
        }
        x = Due.with(ABC);
        due.is("no roads", x.road(0, 0), -1);
    }

    /** "with blanks (10, 32) between where one likes": no other byte is one */
    private void blanks() {
        due.right(" \n who \n a\n\nalone \n 1 \n ;  \n", 1);
        for (int it = 0; it < 256; it++) {
            String sign = String.valueOf((char) it);
            if (it == 10 || it == 32) {
                due.right(sign + "who" + sign + "a" + sign + "alone" + sign + "1" + sign + ";" + sign, 1);
            } else {
                due.wrong(1, "who a alone 1;|" + sign);
                due.wrong(1, "|" + sign + " who a alone 1;");
                due.wrong(1, "who |" + (sign.matches("[a-z]") ? "all" : sign) + " alone 1;");
                due.wrong(1, "who a alone |" + (sign.matches("[0-9]") ? ";" : sign) + ";");
            }
        }
    }

    /** "WORDS (1 to 6 letters a .. z), NUMBERS (1 to 4 digits)": the bytes next to these are none */
    private void lettersAndDigits() {
        for (char letter = 'a'; letter <= 'z'; letter++) {
            due.right("who " + letter + " alone 1;", 1);
            due.right("who " + String.valueOf(letter).repeat(6) + " alone 1;", 1);
        }
        for (char digit = '0'; digit <= '9'; digit++) {
            due.right("who a alone " + digit + ";", 1);
            due.right("who a alone " + String.valueOf(digit).repeat(4) + ";", 1);
        }
        for (char sign : new char[] {'`', '{', 'A', 'Z', '@', '_', 193, 225, 0xb2}) {
            due.wrong(1, "who |" + sign + " alone 1;");
            due.wrong(1, "who a|" + sign + " alone 1;");
            due.wrong(1, "who abcdef|" + sign + " alone 1;");
        }
        for (char sign : new char[] {'/', ':', '.', 0xb2}) {
            due.wrong(1, "who a alone |" + sign + ";");
            due.wrong(1, "who a alone 1|" + sign + ";");
            due.wrong(1, "who a alone 1234|" + sign + ";");
        }
        RoadDeals x = Due.with("who a alone 0009;who b alone 9999;who c alone 0000;");
        due.is("0009", x.share(0), 9);
        due.is("9999", x.share(1), 9999);
        due.is("0000", x.share(2), 0);
    }

    /** "a 7th letter ... at itself, whatever may stand there" */
    private void seventhLetters() {
        for (String more : new String[] {"g", "gh", "g1", "gabcdefabcdef", "g alone 1;", "g;"}) {
            due.wrong(1, "abcdef|" + more);
            due.wrong(1, "who abcdef|" + more);
            due.wrong(1, ABC + "abcdef|" + more);
            due.wrong(1, ABC + "who x abcdef|" + more);
            due.wrong(1, ABC + "who x alone abcdef|" + more);
            due.wrong(1, ABC + "who x alone 1 abcdef|" + more);
            due.wrong(1, ABC + "road abcdef|" + more);
            due.wrong(1, ABC + "road a abcdef|" + more);
            due.wrong(1, ABC + "road a b abcdef|" + more);
            due.wrong(1, ABC + "road a b worth abcdef|" + more);
            due.wrong(1, ABC + "road a b worth 1+abcdef|" + more);
            due.wrong(1, ABC + "road a b worth alone abcdef|" + more);
            due.wrong(1, ABC + "road a b worth min abcdef|" + more);
            due.wrong(1, ABC + "road a b worth 1 when abcdef|" + more);
            due.wrong(1, ABC + "road a b worth 1 when [abcdef|" + more);
            due.wrong(1, ABC + "taste a abcdef|" + more);
            due.wrong(1, ABC + "taste a b abcdef|" + more);
            due.wrong(1, AB + "doubt a b abcdef|" + more);
        }
        // Own words with more behind.
        due.wrong(1, "whowho|who a alone 1;");
        due.wrong(1, "who a aloneo|n 1;");
        due.wrong(1, "who a |alonex 1;");
        due.right("who abcdef alone 1;", 1);
        // The whole tape is one word.
        due.wrong(1, "abcdef|" + "g".repeat(894));
    }

    /** "a 5th digit at itself, whatever may stand there" */
    private void fifthDigits() {
        for (String more : new String[] {"5", "56", "5a", "5;", "5 ;", "567890"}) {
            due.wrong(1, "1234|" + more);
            due.wrong(1, "who 1234|" + more);
            due.wrong(1, "who a 1234|" + more);
            due.wrong(1, "who a alone 1234|" + more);
            due.wrong(1, "who a alone 0000|" + more);
            due.wrong(1, "who a alone 1 1234|" + more);
            due.wrong(1, "who a alone 1;1234|" + more);
            due.wrong(1, ABC + "road a b worth 1234|" + more);
            due.wrong(1, ABC + "road a b worth 1+1234|" + more);
            due.wrong(1, ABC + "road a b worth (1)1234|" + more);
            due.wrong(1, ABC + "road a b worth 1 when 1<1234|" + more);
            due.wrong(1, ABC + "taste a b 1234|" + more);
            due.wrong(1, ABC + "taste a b less 1234|" + more);
            due.wrong(1, AB + "doubt a b 1234|" + more);
        }
        due.right("who a alone 1234;", 1);
    }

    /** "WORDS and NUMBERS side by side need one": where it is missing, no text goes on */
    private void sideBySide() {
        due.wrong(1, "who|1");
        due.wrong(1, "who a|1 alone 1;");
        due.wrong(1, "who a alone|1;");
        due.wrong(1, "who a alone 1|who;");
        due.wrong(1, "who a alone 1|a;");
        due.wrong(1, "who a alone 1|abcdefg;");
        due.wrong(1, "who a alone|12345;");
        due.wrong(1, ABC + "road a b worth 1|when all;");
        due.wrong(1, ABC + "road a b worth 1 when 1<2|and all;");
        due.wrong(1, ABC + "road a b worth 1 when day=2|or all;");
        due.wrong(1, ABC + "road a b worth day|1;");
        due.wrong(1, ABC + "road a b worth(1)when[all]or(1)<2|and all;");
        due.right(ABC + "road a b worth(1)when[all]or(1)<2 and all;", 4);
        due.right("who a alone 1;who b alone 1;road a b worth min(1,2)when all;", 3);
    }

    /** "OWN WORDS, which no NAME is"; "an OWN WORD where a NAME must be" is fault 1 */
    private void ownWords() {
        String[] own = {"who", "alone", "road", "worth", "when", "taste", "less", "doubt", "or", "and", "not",
            "all", "day", "week", "wday", "min", "max"};
        for (String word : own) {
            due.wrong(1, "who |" + word + " alone 1;");
            due.wrong(1, "who |" + word);
            due.wrong(1, AB + "road |" + word + " a worth 1;");
            due.wrong(1, AB + "road a |" + word + " worth 1;");
            due.wrong(1, AB + "taste |" + word + " a 1;");
            due.wrong(1, AB + "taste a |" + word + " 1;");
            due.wrong(1, AB + "doubt |" + word + " a 1;");
            due.wrong(1, AB + "doubt a |" + word + " 1;");
            due.wrong(1, AB + "road a c worth alone |" + word + ";");
            // Next to it, a name like others.
            due.right("who " + word + "s alone 1;", 1);
            due.right("who s" + word + " alone 1;", 1);
            String cut = word.substring(0, word.length() - 1);
            due.right("who " + (cut.isEmpty() ? "w" : cut) + " alone 1;", 1);
        }
    }

    /** "at the text's length, if it ends too soon", blanks at its end or not */
    private void tooSoon() {
        String[] all = {"who", "who a", "who a alone", "who a alone 1", ABC + "road", ABC + "road a", ABC + "road a b",
            ABC + "road a b worth", ABC + "road a b worth 1", ABC + "road a b worth (", ABC + "road a b worth (1",
            ABC + "road a b worth min", ABC + "road a b worth min(", ABC + "road a b worth min(1",
            ABC + "road a b worth max(1,", ABC + "road a b worth max(1,2", ABC + "road a b worth 1+",
            ABC + "road a b worth 1 when", ABC + "road a b worth 1 when not", ABC + "road a b worth 1 when [",
            ABC + "road a b worth 1 when [all", ABC + "road a b worth 1 when 1", ABC + "road a b worth 1 when 1<",
            ABC + "road a b worth 1 when 1<2", ABC + "road a b worth 1 when all and", ABC + "road a b worth alone",
            ABC + "taste", ABC + "taste a", ABC + "taste a b", ABC + "taste a b less", ABC + "taste a b 1",
            AB + "doubt", AB + "doubt a", AB + "doubt a b", AB + "doubt a b 1"};
        for (String text : all) {
            due.wrong(1, text + "|");
            due.wrong(1, text + " |");
            due.wrong(1, text + "\n \n|");
        }
    }

    /** A fault of each kind at a text's first byte, if it can be there, and at its last one. */
    private void firstAndLastBytes() {
        due.wrong(1, "|x");
        due.wrong(1, "|1");
        due.wrong(1, "|(");
        due.wrong(1, "|\u0000");
        due.wrong(1, "|\u00ff");
        due.wrong(1, "|alone");
        due.wrong(1, AB + "|x");
        due.wrong(1, AB + "road a c worth (1)|]");
        due.wrong(2, ABC + "who |a");
        due.wrong(2, AB + "road b |a");
        due.wrong(2, AB + "taste a b 1;taste a |b");
        due.wrong(3, "road |a");
        due.wrong(3, AB + "road a |a");
        due.wrong(3, AB + "doubt a |c");
        due.wrong(3, AB + "road a c worth alone |d");
        due.wrong(5, AB + "road a c worth ((((((((|(");
        due.wrong(5, AB + "road a c worth 1 when [[[[[[[[|[");
    }

    /** "2 a NAME to be given that is there already; the second NAME of a road between two that have one, ..." */
    private void namesGiven() {
        due.wrong(2, "who abcdef alone 1;who |abcdef alone 2;");
        due.right("who abcdef alone 1;who abcdeg alone 2;who bbcdef alone 3;who abcde alone 4;", 4);
        for (int who = 0; who < 11; who++) {
            due.wrong(2, TextTest.people(11) + "who |" + (char) ('a' + who) + " alone 0;");
        }
        due.right(TextTest.people(11) + "who l alone 0;", 12);
        due.wrong(2, AB + "road a |b worth 1;");
        due.wrong(2, AB + "road b |a worth 1;");
        due.right(AB + "road a c worth 1;road c b worth 1;", 6);
        due.wrong(2, AB + "taste a b 1;taste a |b 1;");
        due.wrong(2, AB + "taste a b less 1;taste a |b 1;");
        due.wrong(2, AB + "taste a b 0;taste a |b less 0;");
        due.right(AB + "taste a b 0;taste b a 0;taste a c 1;taste c a 1;", 8);
    }

    /** "3 a NAME of nobody, the same one again, the second NAME of a doubt of two without a road" */
    private void namesOfNobody() {
        due.wrong(3, "taste |a");
        due.wrong(3, "doubt |a");
        due.wrong(3, "road |a");
        due.wrong(3, ABC + "road |d a worth 1;");
        due.wrong(3, ABC + "road a |d worth 1;");
        due.wrong(3, ABC + "road |d d worth 1;");
        for (String kind : new String[] {"road", "taste", "doubt"}) {
            due.wrong(3, AB + kind + " |x a 1;");
            due.wrong(3, AB + kind + " a |x 1;");
            due.wrong(3, AB + kind + " a |a 1;");
            due.wrong(3, AB + kind + " a |ab 1;");
        }
        due.wrong(3, AB + "doubt a |c 1;");
        due.wrong(3, AB + "doubt c |a 1;");
        due.right(AB + "doubt a b 1;doubt b a 2;doubt a b 3;", 7);
        due.wrong(3, "who a alone 1;who b alone 1;road a b worth alone |c;who c alone 1;");
        // "the last one of these counts"
        RoadDeals x = Due.with(AB + "doubt a b 1;doubt b a 2;doubt a b 3;");
        due.is("the last one", x.made(0, 2), 3);
        x = Due.with(AB + "doubt a b 9999;doubt b a 0;");
        due.is("the last one", x.made(0, 2), 0);
    }

    /** "5 one too many of a kind of STATEMENT, at its first byte": of each kind, the last one that may be, and one more */
    private void oneTooMany() {
        String all = TextTest.people(12);
        due.right(TextTest.people(11), 11);
        due.right(all, 12);
        for (String more : new String[] {"who", "who m alone 0;", "who a alone 0;", "who all", "who,", "who 12345"}) {
            due.wrong(5, all + "|" + more);
        }
        String roads = all + TextTest.pairs("road", " worth 1", 30, true);
        due.right(all + TextTest.pairs("road", " worth 1", 29, true), 41);
        due.right(roads, 42);
        for (String more : new String[] {"road", "road l k worth 1;", "road a b worth 1;", "road a a", "road x"}) {
            due.wrong(5, roads + "|" + more);
        }
        String tastes = all + TextTest.pairs("taste", " 1", 24, false);
        due.right(all + TextTest.pairs("taste", " less 1", 24, false), 36);
        for (String more : new String[] {"taste", "taste l k 1;", "taste a b 1;", "taste x"}) {
            due.wrong(5, tastes + "|" + more);
        }
        String doubts = all + "road a b worth 1;" + "doubt a b 1;".repeat(24);
        due.right(doubts, 37);
        for (String more : new String[] {"doubt", "doubt a b 2;", "doubt a c 2;", "doubt x"}) {
            due.wrong(5, doubts + "|" + more);
        }
        // Each kind is counted on its own.
        due.right(tastes + "road a b worth 1;" + "doubt a b 1;".repeat(24), 61);
        due.right(tastes + "road a b worth 1;", 37);
        due.right(doubts + "road a c worth 1;taste a b 1;", 39);
        due.wrong(1, all + "|whom a");
        due.wrong(1, roads + "|roads");
    }

    /** "a 9th ( [ that is open at once, at itself": what is closed again is open no more */
    private void ninthOpen() {
        String[] ways = {"(", "min(1,", "max(1,"};
        for (String way : ways) {
            String eight = way.repeat(8) + "1" + ")".repeat(8);
            due.right(ABC + "road a b worth " + eight + ";", 4);
            due.right(ABC + "road a b worth " + eight + "+" + eight + "*" + eight + ";", 4);
            due.wrong(5, ABC + "road a b worth " + way.repeat(8) + "|(1");
            due.wrong(5, ABC + "road a b worth " + way.repeat(8) + "min|(1");
            due.wrong(5, ABC + "road a b worth " + eight + "+" + way.repeat(8) + "|(");
            due.wrong(5, ABC + "road a b worth 1 when " + "[".repeat(7) + way + "|(1");
            due.right(ABC + "road a b worth 1 when " + "[".repeat(7) + way + "1)<2" + "]".repeat(7) + ";", 4);
            due.right(ABC + "road a b worth 1 when 1<" + eight + ";", 4);
            due.right(ABC + "road a b worth " + eight + " when [[[[[[[[" + "all" + "]]]]]]]] and [[all]];", 4);
        }
        due.wrong(5, ABC + "road a b worth min(1,(((((((|(1)))))))));");
        due.wrong(5, ABC + "road a b worth 1 when [[[[[[[[|[all]]]]]]]]];");
        due.wrong(5, ABC + "road a b worth 1 when not [not [[[[[[[not |[all]]]]]]]]];");
        due.right(ABC + "road a b worth 1 when " + "[all] and ".repeat(20) + "[all];", 4);
        due.right(ABC + "road a b worth " + "(1)+".repeat(50) + "(1);", 4);
    }

    /** As much as can wait for what is open: at each of eight a sum, a product and the first of two */
    private void muchThatWaits() {
        String sum = "day";
        int value = 5;
        for (int open = 0; open < 8; open++) {
            sum = "1+2*max(3," + sum + ")";
            value = 1 + 2 * value;
        }
        RoadDeals x = Due.with(ABC + "road a b worth " + sum + ";");
        x.day(5);
        due.is(sum, x.made(0, 0), value);
        due.wrong(5, ABC + "road a b worth " + sum.replace("day", "1+2*max|(1,2)"));
        String test = "1+2*day>6";
        String turned = "1+2*day>9";
        for (int open = 0; open < 8; open++) {
            test = "not all or all and [" + test + "]";
            turned = "not all or all and [" + turned + "]";
        }
        x = Due.with(ABC + "road a b worth 1 when " + test + ";road b c worth 1 when " + turned + ";");
        x.day(4);
        due.is(test, x.made(0, 0), 1);
        due.is(turned, x.made(1, 0), Due.NO_NUMBER);
        due.wrong(5, ABC + "road a b worth 1 when " + test.replace("1+2", "1+2*|(1)"));
    }

    /** As many sums and tests as have room, and behind them one that waits for much: none is reckoned with another's */
    private void manySumsAndTests() {
        StringBuilder text = new StringBuilder(TextTest.people(9));
        for (int n = 0; n < 28; n++) {
            text.append("road ").append(Brute.name(n % 9)).append(' ').append(Brute.name((n + 1 + n / 9) % 9));
            text.append(" worth ").append(n % 10).append(" when all;");
        }
        text.append("road i d worth 2+3*max(4,5+6*max(7,8+9*7));");
        RoadDeals x = Due.with(text.toString());
        for (int n = 0; n < 28; n++) {
            due.is("made " + n, x.made(n, 0), n % 10);
        }
        due.is("the last one", x.made(28, 0), 2 + 3 * (5 + 6 * 71));
    }

    private static final String BILLION = "(1000*1000*1000)";
    private static final String BELOW = "(0-1000*1000*1000)";

    /** The number of a sum, seen by its parts: how often 9999 goes into it, and what it then lacks. */
    private void sum(String sum, long want) {
        long often = Math.floorDiv(want, 9999L);
        long lacks = Math.floorMod(want, 9999L);
        String number = "(" + Math.abs(often) / 1000 + "*1000+" + Math.abs(often) % 1000 + ")";
        String test = "(" + sum + ")/9999=" + (often < 0 ? "0-" : "") + number + " and (" + sum + ")%9999=" + lacks;
        RoadDeals x = Due.with(ABC + "road a b worth 1 when " + test + ";");
        due.is(sum + " is " + want, x.made(0, 0), 1);
    }

    /** "each sum, difference, product above 10 to the 9 is that, below -10 to the 9 likewise" */
    private void sumsOfBillions() {
        long billion = 1000000000L;
        sum(BILLION, billion);
        sum(BELOW, -billion);
        sum("9999*9999*10+9999*20+9", billion - 1);
        sum("9999*9999*10+9999*20+10", billion);
        sum("9999*9999*10+9999*20+11", billion);
        sum("0-9999*9999*10-9999*20-9", 1 - billion);
        sum("0-9999*9999*10-9999*20-11", -billion);
        sum(BILLION + "-1", billion - 1);
        sum(BILLION + "+0", billion);
        sum(BILLION + "+1", billion);
        sum(BILLION + "+1-1", billion - 1);
        sum(BILLION + "-1+1", billion);
        sum(BILLION + "-1+2", billion);
        sum(BELOW + "+1", 1 - billion);
        sum(BELOW + "-0", -billion);
        sum(BELOW + "-1", -billion);
        sum(BELOW + "-1+1", 1 - billion);
        sum(BELOW + "+1-2", -billion);
        sum(BILLION + "+" + BILLION, billion);
        sum(BELOW + "-" + BILLION, -billion);
        sum(BELOW + "+" + BELOW, -billion);
        sum(BILLION + "-" + BELOW, billion);
        sum(BILLION + "-" + BILLION, 0);
        sum(BILLION + "+" + BELOW, 0);
        // Products that would be another number, if they went around behind 2 to the 31.
        for (int by = 1; by < 12; by++) {
            sum(BILLION + "*" + by, billion);
            sum(BELOW + "*" + by, -billion);
            sum(BILLION + "*(0-" + by + ")", -billion);
            sum(BELOW + "*(0-" + by + ")", billion);
        }
        sum(BILLION + "*0", 0);
        sum(BILLION + "*" + BILLION, billion);
        sum(BELOW + "*" + BELOW, billion);
        sum(BELOW + "*" + BILLION, -billion);
        sum("(" + BILLION + "-1)*(" + BILLION + "-1)", billion);
        sum("9999*9999*9999*9999", billion);
        sum("9999*9999*9999*9999/9999", billion / 9999);
        sum("1000*1000*1000/1000*1000-7", billion - 7);
    }

    /** "(by 0 both give 0)" */
    private void byNothing() {
        for (String some : new String[] {"0", "1", "7", "(0-7)", BILLION, BELOW, "day"}) {
            for (String none : new String[] {"0", "(1-1)", "day", "week", "wday", "(0*5)", "(3%1)", "(1/2)"}) {
                sum(some + "/" + none, 0);
                sum(some + "%" + none, 0);
            }
        }
        sum("7/0+3", 3);
        sum("7%0-3", -3);
    }

    /** "/ gives the greatest whole number not above, % what then lacks" */
    private void below() {
        int[] some = {0, 1, 2, 6, 7, 8, 13, 14, 9999};
        for (int one : some) {
            for (int other : some) {
                for (int sign = 0; sign < 4; sign++) {
                    long a = sign % 2 == 0 ? one : -one;
                    long b = sign < 2 ? other : -other;
                    String left = sign % 2 == 0 ? "" + one : "(0-" + one + ")";
                    String right = sign < 2 ? "" + other : "(0-" + other + ")";
                    long whole = b == 0 ? 0 : (long) Math.floor((double) a / b);
                    sum(left + "/" + right, whole);
                    sum(left + "%" + right, b == 0 ? 0 : a - b * whole);
                }
            }
        }
        sum(BELOW + "/(0-1)", 1000000000);
        sum(BELOW + "%(0-1)", 0);
        sum(BELOW + "/7", -142857143);
        sum(BELOW + "%7", 1);
    }

    /** "with the WORTH that its SUM tells, 0 .. 100000" */
    private void worthOfASum() {
        String[] sums = {"0", "0-1", BELOW, "9999*10+10", "9999*10+9", "9999*10+11", BILLION, "1", "9999"};
        int[] worths = {0, 0, 0, 100000, 99999, 100000, 100000, 1, 9999};
        for (int k = 0; k < sums.length; k++) {
            RoadDeals x = Due.with(ABC + "road a b worth " + sums[k] + ";");
            due.is("worth " + sums[k], x.made(0, 0), worths[k]);
        }
    }
}
