import java.util.regex.Matcher;
import java.util.regex.Pattern;

/** Promises 4 to 8: text, fault, has, letter, road. */
public final class TextTest {
    private static final String ABC = "who a alone 1;who b alone 2;who c alone 3;";
    private static final String AB = ABC + "road a b worth 5;";

    private final Due due = new Due("TextTest");

    public static void main(String[] args) {
        TextTest test = new TextTest();
        test.taken();
        test.whatStays();
        test.againAndAgain();
        test.namesAndRoads();
        test.misplaced();
        test.words();
        test.missingBlanks();
        test.names();
        test.limits();
        test.openOnes();
        test.firstAlongTheText();
        test.cutOff();
        test.due.end();
    }

    private void right(String text, int statements) {
        due.right(text, statements);
    }

    private void wrong(int fault, String marked) {
        due.wrong(fault, marked);
    }

    private void worth(String sum) {
        right(ABC + "road a b worth " + sum + ";", 4);
    }

    private void when(String test) {
        right(ABC + "road a b worth 1 when " + test + ";", 4);
    }

    private void taken() {
        right("", 0);
        right("  \n \n", 0);
        right("who a alone 0;", 1);
        right("who\na\nalone\n0\n;\n", 1);
        right("who abcdef alone 9999;who z alone 0000;", 2);
        right(AB, 4);
        right(ABC + "road c a worth day when all;taste a c 4;taste c a less 4;doubt c a 3;doubt a c 0;", 8);
        right(ABC + "taste a b 0;taste b a less 0;", 5);
        right("who whos alone 0;who alon alone 1;who dayx alone 2;who x alone 3;", 4);
        worth("1");
        worth("1+2-3*4/5%6");
        worth("( day )+week*wday");
        worth("alone a+alone c");
        worth("min(1,max(day,2))");
        worth("min ( 1 , max ( day , 2 ) )");
        when("not not not all");
        when("1<2 and 2>1 or 3=3");
        when("[1<2 or all]and not[all]");
        when("(1)<(2)");
        when("(1+2)*3<4");
        when("min(1,2)=1");
        when("alone b<2");
    }

    private void whatStays() {
        RoadDeals x = Due.with(AB + "taste a b 1;doubt a b 1;");
        x.day(5);
        due.is("worth", x.worth(0, 50), 1);
        due.is("worth", x.worth(0, 60), 2);
        x.as(1);
        due.is("deal", x.deal(0, 3), 1);
        due.is("a fault", Due.told(x, "who a alone 1;who"), -1);
        due.is("fault(0)", x.fault(0), 1);
        due.is("fault(1)", x.fault(1), 17);
        int[] stays = {3, 1, 1, 1, 2, 1, 1, 5};
        for (int what = 0; what < 8; what++) {
            due.is("has(" + what + ") stays", x.has(what), stays[what]);
        }
        due.is("made stays", x.made(0, 0), 51);
        due.is("letter stays", x.letter(2, 0), 'c');
        due.is("share stays", x.share(0), 3);
        x.image();
        due.is("a text", Due.told(x, "who d alone 1;who e alone 1;road d e worth 9;"), 3);
        int[] anew = {2, 1, 0, 0, 0, 0, 0, 5};
        for (int what = 0; what < 8; what++) {
            due.is("has(" + what + ") anew", x.has(what), anew[what]);
        }
        due.is("fault(0)", x.fault(0), 0);
        due.is("fault(1)", x.fault(1), -1);
        due.is("made anew", x.made(0, 0), 9);
        due.is("no doubt", x.made(0, 2), 0);
        due.is("an act again", x.worth(0, 7), 1);
        due.is("as was NONE again", x.has(5), 1);
        due.is("made of it", x.made(0, 0), 7);
        due.is("the image stays", x.octet(0), 1);
        due.is("a text", Due.told(x, ""), 0);
        due.is("nobody", x.has(0), 0);
        due.is("no roads", x.has(1), 0);
        due.is("no letter", x.letter(0, 0), -1);
    }

    /** Nothing is left of earlier texts, taken or refused. */
    private void againAndAgain() {
        String[] texts = {AB + "taste a b 4;taste b a 1;doubt a b 3;", ABC + "road c a worth 7;taste c b 1;",
            ABC + "road a b worth 5;", AB + "taste a b 2;", ABC + "road b a worth 6 when day<1;taste b a 9;"};
        int[] statements = {7, 5, 4, 5, 5};
        int[] made = {10, 7, 5, 7, 15};
        int[] doubt = {3, 0, 0, 0, 0};
        RoadDeals x = new RoadDeals();
        for (int n = 0; n < 300; n++) {
            int k = due.next(5);
            due.is("text " + k, Due.told(x, texts[k]), statements[k]);
            due.is("made by " + k, x.made(0, 0), made[k]);
            due.is("doubt by " + k, x.made(0, 2), doubt[k]);
            due.is("acts", x.has(4), 0);
            x.worth(0, n);
            x.deal(0, n);
            if (due.next(2) == 0) {
                due.is("refused", Due.told(x, texts[due.next(5)] + "taste a b 1;taste b a 1;doubt a b 1;x"), -1);
            }
        }
        due.is("no doubt of a text refused", Due.told(x, texts[2]), 4);
        due.is("no doubt of a text refused", x.made(0, 2), 0);
    }

    private void namesAndRoads() {
        RoadDeals x = Due.with("who z alone 1;who zzzzzz alone 1;who abc alone 1;road abc z worth 1;"
                + "road z zzzzzz worth 1;");
        due.is("z", x.letter(0, 0), 'z');
        due.is("z has one", x.letter(0, 1), -1);
        for (int k = 0; k < 6; k++) {
            due.is("zzzzzz", x.letter(1, k), 'z');
        }
        due.is("zzzzzz has six", x.letter(1, 6), -1);
        due.is("abc", x.letter(2, 0), 'a');
        due.is("abc", x.letter(2, 1), 'b');
        due.is("abc", x.letter(2, 2), 'c');
        due.is("abc has three", x.letter(2, 3), -1);
        due.is("letter -1", x.letter(2, -1), -1);
        due.is("nobody's", x.letter(3, 0), -1);
        due.is("nobody's", x.letter(-1, 0), -1);
        due.is("far", x.letter(0, Integer.MAX_VALUE), -1);
        due.is("far", x.letter(Integer.MAX_VALUE, 0), -1);
        due.is("first", x.road(0, 0), 2);
        due.is("second", x.road(0, 1), 0);
        due.is("first", x.road(1, 0), 0);
        due.is("second", x.road(1, 1), 1);
        due.is("which 2", x.road(0, 2), -1);
        due.is("which -1", x.road(0, -1), -1);
        due.is("road 2", x.road(2, 0), -1);
        due.is("road -1", x.road(-1, 0), -1);
    }

    private void misplaced() {
        wrong(1, "|a");
        wrong(1, "|;");
        wrong(1, "|5");
        wrong(1, "|wh");
        wrong(1, "who |");
        wrong(1, "who  \n |");
        wrong(1, "who a|");
        wrong(1, "who a |b");
        wrong(1, "who a alone |;");
        wrong(1, "who a alone |x;");
        wrong(1, "who a alone |day;");
        wrong(1, "who a alone 5|");
        wrong(1, "who a alone 5  |");
        wrong(1, "who a alone 5 |6;");
        wrong(1, "who a alone 5;|;");
        wrong(1, "who a alone |-5;");
        wrong(1, "who |7 alone 5;");
        wrong(1, "|\twho a alone 5;");
        wrong(1, "who a alone 5;|\r\n");
        wrong(1, "|Who a alone 5;");
        wrong(1, "who |\u00e4 alone 5;");
        wrong(1, "|\u0000");
        wrong(1, AB + "road a c |when all;");
        wrong(1, AB + "road a c worth |;");
        wrong(1, AB + "road a c worth 1 |all;");
        wrong(1, AB + "road a c worth 1 when |;");
        wrong(1, AB + "road a c worth 1 when 1|;");
        wrong(1, AB + "road a c worth 1 when (1|<2);");
        wrong(1, AB + "road a c worth 1 when [1|];");
        wrong(1, AB + "road a c worth 1 when [1<2|;");
        wrong(1, AB + "road a c worth 1 when [1<2|);");
        wrong(1, AB + "road a c worth 1 when 1<|not all;");
        wrong(1, AB + "road a c worth 1 when 1<2|<3;");
        wrong(1, AB + "road a c worth 1 when all |all;");
        wrong(1, AB + "road a c worth 1 when all and |or all;");
        wrong(1, AB + "road a c worth 1 when not |;");
        wrong(1, AB + "road a c worth 1 when |a<2;");
        wrong(1, AB + "road a c worth |a;");
        wrong(1, AB + "road a c worth |-1;");
        wrong(1, AB + "road a c worth 1+|;");
        wrong(1, AB + "road a c worth 1+|+2;");
        wrong(1, AB + "road a c worth (1|;");
        wrong(1, AB + "road a c worth (1|];");
        wrong(1, AB + "road a c worth |[1];");
        wrong(1, AB + "road a c worth ()".replace(")", "|)") + ";");
        wrong(1, AB + "road a c worth min |1,2;");
        wrong(1, AB + "road a c worth min(1|);");
        wrong(1, AB + "road a c worth min(1,2|,3);");
        wrong(1, AB + "road a c worth min(|,2);");
        wrong(1, AB + "road a c worth alone |1;");
        wrong(1, AB + "road a c worth alone |day;");
        wrong(1, AB + "road a c worth 1|, 2;");
        wrong(1, AB + "taste a c |worth;");
        wrong(1, AB + "taste a c less |less 1;");
        wrong(1, AB + "taste a c less |;");
        wrong(1, AB + "taste a c |-1;");
        wrong(1, AB + "doubt a b |less 1;");
        wrong(1, AB + "doubt a b |");
        wrong(1, AB + "doubt |");
    }

    private void words() {
        wrong(1, "who abcdef|g alone 1;");
        wrong(1, "who abcdef|ghijkl alone 1;");
        wrong(1, "whoare|you");
        wrong(1, "who a alone 1234|5;");
        wrong(1, "who a alone 0000|0;");
        wrong(1, "who a alone abcdef|g;");
        wrong(1, "1234|5");
        wrong(1, "who 1234|5 alone 5;");
        wrong(1, "who a alone|5;");
        wrong(1, "who a|5 alone 5;");
        wrong(1, AB + "road a c worth 5|when all;");
        wrong(1, AB + "road a c worth 5 when 1<2|or all;");
        wrong(1, AB + "road a c worth day|7;");
        wrong(1, AB + "taste a c less|7;");
        wrong(1, AB + "road a c worth |abcdef;");
        String[] own = {"who", "alone", "road", "worth", "when", "taste", "less", "doubt", "or", "and", "not",
            "all", "day", "week", "wday", "min", "max"};
        for (String word : own) {
            wrong(1, "who |" + word + " alone 1;");
            wrong(1, AB + "road |" + word + " a worth 1;");
            wrong(1, AB + "taste a |" + word + " 1;");
            wrong(1, AB + "road a c worth alone |" + word + ";");
            right("who " + word + "x alone 1;", 1);
            right("who x" + word.substring(1) + " alone 1;", 1);
        }
    }

    /** Where a blank is missing no text goes on: that stands ahead of a letter or a digit too many. */
    private void missingBlanks() {
        wrong(1, "who a alone 5|abcdefg");
        wrong(1, "who a alone 5|abcdefghijklm;");
        wrong(1, "who a alone 1234|abcdefg;");
        wrong(1, "who a alone 1234|5abcdefg;");
        wrong(1, "who a alone|12345;");
        wrong(1, "who a|12345 alone 5;");
        wrong(1, "who abcdef|12345 alone 5;");
        wrong(1, "who abcdef|g12345 alone 5;");
        wrong(1, "who|12345");
        wrong(1, AB + "road a c worth 5|abcdefg;");
        wrong(1, AB + "road a c worth day|12345;");
        wrong(1, AB + "road a c worth 1 when 1<2|abcdefg;");
        wrong(1, AB + "road a c worth 1 when all|12345;");
        wrong(1, AB + "road a c worth min|12345;");
        wrong(1, AB + "taste a c less|12345;");
        wrong(1, AB + "doubt a b|12345;");
        wrong(1, AB + "doubt a b 5|abcdefg;");
        wrong(1, AB + "road a c worth (1)abcdef|g;");
        wrong(1, AB + "road a c worth (1)1234|5;");
        wrong(1, "who a alone 5;abcdef|g");
        wrong(1, "who a alone 5 abcdef|g");
        wrong(1, "who a alone 5\nabcdef|g");
        wrong(1, "who a alone |abc12345;");
        wrong(1, "|5abcdefg");
        wrong(1, "1234|5abcdefg");
        wrong(2, ABC + "who |a12345 alone 5;");
        wrong(3, ABC + "road |x12345 a worth 1;");
        wrong(3, ABC + "road a |a12345 worth 1;");
        wrong(5, people(12) + "|who12345");
    }

    private void names() {
        wrong(2, ABC + "who |a alone 1;");
        wrong(2, ABC + "who |c alone 1;");
        wrong(2, AB + "road a |b worth 1;");
        wrong(2, AB + "road b |a worth 1;");
        wrong(2, AB + "taste a b 1;taste a |b 2;");
        wrong(2, AB + "taste a b 0;taste a |b 0;");
        wrong(2, AB + "taste a c less 1;taste a |c less 1;");
        right(AB + "taste a b 1;taste b a 1;", 6);
        wrong(3, AB + "road |d a worth 1;");
        wrong(3, AB + "road a |d worth 1;");
        wrong(3, AB + "road a |a worth 1;");
        wrong(3, AB + "taste |d a 1;");
        wrong(3, AB + "taste a |d 1;");
        wrong(3, AB + "taste a |a 1;");
        wrong(3, AB + "doubt |d a 1;");
        wrong(3, AB + "doubt a |d 1;");
        wrong(3, AB + "doubt a |a 1;");
        wrong(3, AB + "doubt a |c 1;");
        wrong(3, AB + "doubt c |b 1;");
        right(AB + "doubt b a 1;", 5);
        wrong(3, AB + "road a c worth alone |d;");
        wrong(3, AB + "road a c worth 1 when 1<alone |d;");
        wrong(3, "road |a b worth 1;");
        wrong(3, "who a alone 1;taste |aa a 1;");
    }

    static String people(int n) {
        StringBuilder text = new StringBuilder();
        for (int k = 0; k < n; k++) {
            text.append("who ").append((char) ('a' + k)).append(" alone 0;");
        }
        return text.toString();
    }

    /** Statements of a kind with two names, so many at most. */
    static String pairs(String kind, String behind, int n, boolean oneWay) {
        StringBuilder text = new StringBuilder();
        for (int one = 0; one < 12 && n > 0; one++) {
            for (int other = oneWay ? one + 1 : 0; other < 12 && n > 0; other++) {
                if (one != other) {
                    text.append(kind).append(' ').append((char) ('a' + one)).append(' ');
                    text.append((char) ('a' + other)).append(behind).append(';');
                    n--;
                }
            }
        }
        return text.toString();
    }

    private void limits() {
        right(people(12), 12);
        wrong(5, people(12) + "|who z alone 1;");
        wrong(5, people(12) + " \n |who a");
        wrong(5, people(12) + "|who");
        wrong(1, people(12) + "|whoo");
        String all = people(12);
        right(all + pairs("road", " worth 1", 30, true), 42);
        wrong(5, all + pairs("road", " worth 1", 30, true) + "|road l a worth 1;");
        right(all + pairs("taste", " 1", 24, false), 36);
        wrong(5, all + pairs("taste", " 1", 24, false) + "|taste l a 1;");
        String doubts = all + "road a b worth 1;" + "doubt a b 1;".repeat(24);
        right(doubts, 37);
        wrong(5, doubts + "|doubt a b 1;");
        wrong(5, doubts + "|doubt z;");
        RoadDeals x = Due.with(doubts);
        due.is("doubts", x.has(3), 24);
        x = Due.with(all + pairs("taste", " 1", 24, false));
        due.is("tastes", x.has(2), 24);
        x = Due.with(all + pairs("road", " worth 1", 30, true));
        due.is("roads", x.has(1), 30);
        due.is("the last road", x.road(29, 0), 2);
    }

    private void openOnes() {
        worth("((((((((1))))))))");
        wrong(5, AB + "road a c worth ((((((((|(1)))))))));");
        worth("((((((((1))))))))+((((((((1))))))))");
        worth("min(min(min(min(min(min(min(min(1,1),1),1),1),1),1),1),1)");
        wrong(5, AB + "road a c worth min(max(min(max(min(max(min(max(min|(1,1),1),1),1),1),1),1),1),1);");
        worth("min(1,(((((((1))))))))");
        worth("max((((((((1))))))),(((((((1))))))))");
        wrong(5, AB + "road a c worth min(1,(((((((|(1)))))))));");
        wrong(5, AB + "road a c worth max((((((((|(1)))))))),1);");
        when("[[[[[[[[all]]]]]]]]");
        wrong(5, AB + "road a c worth 1 when [[[[[[[[|[all]]]]]]]]];");
        when("[[[[(((day+(day))))<4]]]]");
        wrong(5, AB + "road a c worth 1 when [[[[((((|(1<2");
        wrong(1, AB + "road a c worth ((((((((1|(");
        wrong(1, AB + "road a c worth ((((((((|[");
        when("not ".repeat(190) + "all");
    }

    private void firstAlongTheText() {
        wrong(2, ABC + "who |a5");
        wrong(2, ABC + "who |a");
        wrong(3, ABC + "road |x 12345");
        wrong(3, ABC + "road a |x abcdefgh");
        wrong(5, people(12) + "|who abcdefgh");
        wrong(3, AB + "taste |x x");
        wrong(2, AB + "road a |b");
        wrong(1, AB + "road a c |worthy");
        wrong(1, AB + "road a c worth 1;road|5");
    }

    /** What is cut between its words, numbers and signs ends too soon, but behind a statement. */
    private void cutOff() {
        String text = AB + "road c a worth min(1 + day * 2 , (week)) - 3 when not [ day < 4 or wday = 2 ] and all;"
                + "taste a b less 7 ; doubt b a 12;";
        Matcher word = Pattern.compile("[a-z]+|[0-9]+|[^ ]").matcher(text);
        int statements = 0;
        while (word.find()) {
            String cut = text.substring(0, word.end());
            if (word.group().equals(";")) {
                statements++;
                right(cut, statements);
                right(cut + " \n", statements);
            } else {
                wrong(1, cut + "|");
                wrong(1, cut + "\n |");
            }
            wrong(1, text.substring(0, word.start()) + "|!" + text.substring(word.start()));
        }
        due.is("statements", statements, 7);
    }
}
