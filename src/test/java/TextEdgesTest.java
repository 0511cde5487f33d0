/** Edges of the text of a house: how long, how many, how deep, which fault comes first, and where it is. */
public final class TextEdgesTest {
    private static final String ONE = "house lines 1;";
    private static final String[] TOKENS = ("house lines 2 ; person 1 2 out temper 3 ; pinches : not [ one < hat or two = head ] and"
            + " ( three + 1 ) * 2 > height - who ; changes : ( one + 2 ) * line - 3 ; bill 1 2 ;").split(" ");

    private TextEdgesTest() {
    }

    public static void main(String[] args) {
        longest();
        lines();
        marksAndFigures();
        flags();
        eightPeople();
        strikes();
        blanksAndSigns();
        asLongAsTheyGo();
        numbers();
        bounds();
        firstAlongTheText();
        leastKind();
        theEnd();
        cannotStand();
        firstAndOnce();
        within();
        Edge.end(Edge.TERMS, Edge.TERMS);
    }

    /** The sign | stands where the fault is. */
    private static void faulty(int kind, String marked) {
        int place = marked.indexOf('|');
        faulty(marked.substring(0, place) + marked.substring(place + 1), kind, place);
    }

    private static void faulty(String text, int kind, int place) {
        PinchedBill x = new PinchedBill();
        Edge.due("house of " + text, Check.tell(x, text), -10 - kind);
        Edge.due("fault(0) of " + text, x.fault(0), kind);
        Edge.due("fault(1) of " + text, x.fault(1), place);
        Edge.due("nothing is told by " + text, x.count(0) + x.count(2), 0);
    }

    private static PinchedBill fine(String text, int lines) {
        PinchedBill x = new PinchedBill();
        Edge.due("house of " + text, Check.tell(x, text), lines);
        Edge.due("fault(0) of " + text, x.fault(0), 0);
        Edge.due("fault(1) of " + text, x.fault(1), -1);
        return x;
    }

    /** A sum of so many bytes. */
    private static String sum(int bytes) {
        StringBuilder s = new StringBuilder(bytes % 2 == 0 ? "10" : "1");
        while (s.length() < bytes) {
            s.append("+1");
        }
        return s.toString();
    }

    private static void longest() {
        Edge.of(Edge.TERMS, "THE HOUSE is a TEXT of at most 900 bytes");
        String head = "house lines 1;person 0;changes:";
        String whole = head + sum(900 - head.length() - 1) + ";";
        Edge.due("bytes", whole.length(), 900);
        Edge.due("it is a law of 900 bytes", fine(whole, 3).spoken(0, 0), 100);
        Edge.due("its last sign counts", fine(head + sum(864) + "-999;", 3).spoken(500, 0), 400);
        faulty(2, whole.substring(0, 899) + "|");
        faulty(2, head + sum(900 - head.length()) + "|");
        faulty(1, whole.substring(0, 899) + "|#");
        fine(ONE + " ".repeat(886), 1);
        fine(" ".repeat(886) + ONE, 1);
        faulty(2, " ".repeat(900) + "|");
        Edge.due("many lines of text", fine("house lines 3;" + "bill 1 2 3;".repeat(80), 81).bill(), 123);
        fine(ONE + "person 1" + " out".repeat(217) + ";", 2);
        Edge.of(Edge.TERMS, "(without one: 1 LINE, BILL 0, no PEOPLE)");
        PinchedBill none = new PinchedBill();
        Edge.due("lines of a bill", none.count(1), 1);
        Edge.due("bill", none.bill(), 0);
        Edge.due("people", none.count(2), 0);
        Edge.of(Edge.TERMS, "house lines N ; { LINE ; }");
        fine(ONE, 1);
        faulty(2, ONE + "|;");
        faulty(2, "|");
    }

    private static void lines() {
        Edge.of(Edge.TERMS, "lines: how many LINES a BILL has, 1 to 3.");
        for (int n = 1; n <= 3; n++) {
            Edge.due("lines", fine("house lines " + n + ";", 1).count(1), n);
            Edge.due("lines, three digits", fine("house lines 00" + n + ";", 1).count(1), n);
        }
        for (String n : new String[] {"0", "00", "000", "4", "9", "10", "11", "999"}) {
            faulty(3, "house lines |" + n + ";");
        }
    }

    private static void marksAndFigures() {
        for (int n = 1; n <= 3; n++) {
            for (String word : new String[] {"person", "bill"}) {
                String head = "house lines " + n + ";" + word;
                Edge.of(Edge.TERMS, word.equals("bill") ? "bill: as many FIGURES, 0 to 9 (all 0)." : "person: as many MARKS, 0 to 9;");
                for (String good : new String[] {" 0", " 9", " 00", " 009"}) {
                    fine(head + good.repeat(n) + ";", 2);
                }
                for (int k = 0; k < n; k++) {
                    faulty(3, head + " 9".repeat(k) + " |10" + " 9".repeat(n - k - 1) + ";");
                    faulty(3, head + " 9".repeat(k) + " |999;");
                }
                Edge.of(Edge.TERMS, "too many, too few FIGURES or MARKS: what stands in place of one)");
                for (int k = 0; k < n; k++) {
                    faulty(2, head + " 1".repeat(k) + "|;");
                    faulty(2, head + " 1".repeat(k) + " |out;");
                    faulty(2, head + " 1".repeat(k) + "|");
                }
                faulty(2, head + " 1".repeat(n) + " |1;");
                faulty(2, head + " 1".repeat(n) + " |10;");
                faulty(2, head + " 1".repeat(n) + " |999;");
            }
        }
        Edge.of(Edge.TERMS, "bill: as many FIGURES, 0 to 9 (all 0).");
        Edge.due("no bill is told", fine("house lines 3;", 1).bill(), 0);
        PinchedBill x = fine("house lines 1;bill 9;", 2);
        Check.tell(x, ONE);
        Edge.due("no bill is told behind one", x.bill(), 0);
        Edge.of(Edge.TERMS, "100 times the first, 10 times the second, and the third (0 those it hasn't)");
        Edge.due("one line", fine("house lines 1;bill 7;", 2).bill(), 700);
        Edge.due("two lines", fine("house lines 2;bill 7 4;", 2).bill(), 740);
        Edge.due("three lines", fine("house lines 3;bill 7 4 9;", 2).bill(), 749);
        Edge.due("three lines, 0 ahead", fine("house lines 3;bill 0 0 9;", 2).bill(), 9);
    }

    private static void flags() {
        Edge.of(Edge.TERMS, "out: it doesn't sit (sits without)");
        Edge.due("without", fine(ONE + "person 1;", 2).person(0, 4), 1);
        Edge.due("out", fine(ONE + "person 1 out;", 2).person(0, 4), 0);
        Edge.due("twice", fine(ONE + "person 1 out out;", 2).person(0, 4), 0);
        Edge.of(Edge.TERMS, "temper: how likely it comes, in 10, 0 to 10 (10)");
        Edge.due("without", fine(ONE + "person 1;", 2).person(0, 3), 10);
        Edge.due("out", fine(ONE + "person 1 out;", 2).person(0, 3), 10);
        for (int t = 0; t <= 10; t++) {
            Edge.due("temper " + t, fine(ONE + "person 1 temper " + t + ";", 2).person(0, 3), t);
        }
        faulty(3, ONE + "person 1 temper |11;");
        faulty(3, ONE + "person 1 temper |999;");
        faulty(1, ONE + "person 1 temper |1000;");
        faulty(2, ONE + "person 1 temper|;");
    }

    private static void eightPeople() {
        Edge.of(Edge.TERMS, "numbered from 0 on, 8 at most");
        String eight = ONE + "person 0;person 1;person 2;person 3;person 4;person 5;person 6;person 7;";
        PinchedBill x = fine(eight, 9);
        Edge.due("people", x.count(2), 8);
        Edge.due("all sit", x.count(3), 255);
        for (int p = 0; p < 8; p++) {
            Edge.due("number " + p, x.person(p, 0), p);
        }
        Edge.of(Edge.TERMS, "4 the first TOKEN of a 9th person");
        faulty(4, eight + "|person 8;");
        faulty(4, eight + "|person");
        faulty(4, eight + " |person 99999 #;");
        faulty(4, eight + "bill 1;pinches:1=1;\n|person 8;");
        faulty(2, eight + "|persons 8;");
    }

    private static void strikes() {
        Edge.of(Edge.TERMS, "of a word the later one strikes");
        Edge.due("the later temper", fine(ONE + "person 1 temper 3 temper 4;", 2).person(0, 3), 4);
        Edge.due("the later temper, 10", fine(ONE + "person 1 temper 3 out temper 10;", 2).person(0, 3), 10);
        Edge.due("the later temper, 0", fine(ONE + "person 1 temper 10 temper 0 out;", 2).person(0, 3), 0);
        faulty(3, ONE + "person 1 temper |11 temper 4;");
        Edge.of(Edge.TERMS, "Later ones of pinches, changes, bill strike.");
        PinchedBill x = fine("house lines 1;pinches:1=1 and 2=2;bill 9;person 5;changes:1+1+1;pinches:one=3;changes:0-1;bill 2;", 8);
        Edge.due("bill", x.bill(), 200);
        Edge.due("pinches", x.pinched(200), 0);
        Edge.due("pinches", x.pinched(300), 1);
        Edge.due("changes", x.spoken(300, 0), 200);
        faulty(2, ONE + "pinches:1|;pinches:1=1;");
    }

    private static void blanksAndSigns() {
        Edge.of(Edge.TERMS, "between them blanks (10, 32): words (small letters), N (1 to 3 digits), the signs ; : + - * ( ) [ ] = < >");
        String signs = ";:+-*()[]=<>";
        for (int b = 0; b < 256; b++) {
            char c = (char) b;
            String text = ONE + c + "bill 1;";
            boolean token = c >= 'a' && c <= 'z' || c >= '0' && c <= '9' || signs.indexOf(c) >= 0;
            if (b == 10 || b == 32) {
                fine(text, 2);
            } else {
                faulty(text, token ? 2 : 1, 14);
            }
        }
        fine("\n \n house\n\nlines \n 1\n;\n \n", 1);
        fine("house lines 1;pinches:not[one<1]and(1)=1or 2>1;changes:(one)*1-1+1;", 3);
    }

    private static void asLongAsTheyGo() {
        Edge.of(Edge.TERMS, "TOKENS, as long as they go");
        fine("house lines1;person1;bill1;", 3);
        fine("house lines 1;person 1out temper1out;", 2);
        fine("house lines 1;pinches:1=1and 2=2or not 1=2;", 2);
        faulty(2, "|houselines 1;");
        faulty(2, "house lines 1;person 1 |outtemper 1;");
        faulty(2, "house lines 1;pinches:|notnot 1=1;");
        faulty(2, "house lines 1;pinches:1=1 and2=2 or3=3 |andnot 1=1;");
        faulty(2, "house lines 1;person 1 out|1;");
        faulty(3, "house lines 2;person |12;");
        faulty(3, "house lines 2;person 1 |23 4;");
    }

    private static void numbers() {
        Edge.of(Edge.TERMS, "1 no TOKEN begins so (4 digits and more: at their first).");
        fine(ONE + "changes:999-000+7-07-007;", 2);
        for (String n : new String[] {"0000", "1000", "9999", "00000", "12345678901234567890", "4294967297", "0".repeat(800)}) {
            faulty(1, ONE + "changes:|" + n + ";");
            faulty(1, ONE + "changes:1+|" + n);
        }
        faulty(1, ONE + "changes:123 |4567;");
        faulty(1, "house lines |0001;");
        faulty(1, "|House lines 1;");
        faulty(1, "house lines 1;bill 1|.;");
        faulty(1, "house lines 1;bill 1|_;");
        faulty(2, "house lines 1;bill |-1;");
    }

    private static void bounds() {
        Edge.of(Edge.TERMS, "3 N is out of its bounds.");
        faulty(3, "house lines |0;");
        faulty(3, "house lines |4;");
        faulty(3, "house lines 1;person |10;");
        faulty(3, "house lines 3;person 9 9 |10;");
        faulty(3, "house lines 1;person 9 temper |11;");
        faulty(3, "house lines 1;bill |10;");
        faulty(3, "house lines 3;bill 9 9 |010;");
        fine("house lines 1;changes:0+999;pinches:0<999;", 3);
        fine("house lines 3;person 000 009 9 temper 010 temper 000;bill 9 09 009;", 3);
    }

    private static void firstAlongTheText() {
        Edge.of(Edge.TERMS, "FAULTS, the first along the text");
        faulty(3, "house lines |4;# ;person 1000");
        faulty(3, "house lines 1;bill |10;#");
        faulty(1, "house lines 1;bill |#;bill 10;");
        faulty(2, "house lines 1;bill |bill # 10");
        faulty(4, "house lines 1;pinches:[[[[[[|[ #");
        faulty(1, "house lines 1;pinches:[[[[[[ |#[");
        faulty(2, "house lines 1;pinches:[[[[[[ |] [");
        faulty(3, "house lines 1;person 1 temper |11 temper 1000 out 1;");
    }

    private static void leastKind() {
        Edge.of(Edge.TERMS, "of one TOKEN the least kind");
        faulty(1, "house lines 1;bill |1000;");
        faulty(1, "house lines 1;bill 1 |1000;");
        faulty(2, "house lines 1;bill 1 |10;");
        faulty(2, "house lines 1;person 1 temper 1 |11;");
        faulty(2, "house lines 1 |999;");
        faulty(2, "house lines 1;changes:((((((|[1");
        faulty(2, "house lines 1;changes:((((((|not 1");
        faulty(2, "house lines 1;pinches:1=((((((|not 1");
        faulty(2, "house lines 1;pinches:[[[[[[1=1|[");
        faulty(2, "house lines 1;pinches:[[[[[[1|(");
        faulty(2, "house lines 1;pinches:[[[[[[1=1 |not");
    }

    private static String first(int many) {
        StringBuilder s = new StringBuilder();
        for (int i = 0; i < many; i++) {
            s.append(i == 0 ? "" : " ").append(TOKENS[i]);
        }
        return s.toString();
    }

    private static void theEnd() {
        Edge.of(Edge.TERMS, "2 it can't stand there (the end: the text's length;");
        int lines = 0;
        for (int many = 0; many <= TOKENS.length; many++) {
            String text = first(many);
            if (many > 0 && TOKENS[many - 1].equals(";")) {
                lines++;
                fine(text, lines);
                fine(text + "\n ", lines);
            } else {
                faulty(2, text + "|");
                faulty(2, text + " \n  |");
            }
        }
    }

    private static void cannotStand() {
        Edge.of(Edge.TERMS, "2 it can't stand there");
        for (int i = 0; i < TOKENS.length; i++) {
            String ahead = first(i) + " ";
            StringBuilder behind = new StringBuilder();
            for (int k = i + 1; k < TOKENS.length; k++) {
                behind.append(' ').append(TOKENS[k]);
            }
            if (TOKENS[i].length() > 1) {
                misspelt(ahead, TOKENS[i], behind.toString());
            }
            faulty(2, ahead + "|zzz" + behind);
            faulty(1, ahead + "|#" + behind);
            faulty(1, ahead + "|1234" + behind);
            faulty(2, ahead + (i == 0 ? "house |house" : "|house") + behind);
        }
        for (String law : new String[] {"|*1", "|+1", "|-1", "|)", "|]", "|=", "|:1", "1+|*1", "1*|+1", "1-|-1", "1+|;", "1*|;", "(|;", "(|)",
            "(1+|)", "(1|;", "1|)", "1|(2)", "1|one", "one|1", "1|:", "1|=1", "1|and 1", "1|not", "|[1]", "|out", "|temper", "|lines"}) {
            faulty(2, ONE + "changes:" + law + ";");
        }
        for (String law : new String[] {"|=1", "|<1", "|>1", "|and 1=1", "|or 1=1", "|]", "[|]", "[|and", "not |and", "not |]", "1|]", "1|and",
            "1|[", "1=|=", "1=|<1", "1=|>", "1=|[1]", "1=|not 1", "1=1|=1", "1=1 |1", "1=1|]", "1=1|)", "1=1|(", "1=1|[", "1=1 |not", "1=1 and|;",
            "1=1 or|;", "1=1 and |or", "1=1 or |and", "[1=1|)", "[1=1|;", "(1|=1)", "(1|]", "(|[", "1=1|:", "|person"}) {
            faulty(2, ONE + "pinches:" + law.replace("(|[", "(|[") + ";");
        }
        Edge.of(Edge.TERMS, "line in pinches;");
        faulty(2, ONE + "pinches:|line=1;");
        faulty(2, ONE + "pinches:1=|line;");
        faulty(2, ONE + "changes:line;pinches:[not 1+(2*|line)=1];");
        fine(ONE + "changes:line;", 2);
        faulty(2, ONE + "changes:|lines;");
    }

    /** Each letter of a word counts, and no other word does. */
    private static void misspelt(String ahead, String word, String behind) {
        for (int i = 0; i < word.length(); i++) {
            faulty(2, ahead + "|" + word.substring(0, i) + "z" + word.substring(i + 1) + behind);
        }
        faulty(2, ahead + "|" + word.substring(1) + behind);
        faulty(2, ahead + "|" + word.substring(0, word.length() - 1) + behind);
        faulty(2, ahead + "|" + word + "s" + behind);
        faulty(2, ahead + "|" + word + word + behind);
        faulty(1, ahead + "|" + word.toUpperCase() + behind);
    }

    private static void firstAndOnce() {
        Edge.of(Edge.TERMS, "house must be told first, and once;");
        faulty(2, "|person 1;house lines 1;");
        faulty(2, "|bill 1;house lines 1;");
        faulty(2, "|pinches:1=1;");
        faulty(2, "|changes:1;");
        faulty(2, "|;house lines 1;");
        faulty(2, "house lines 1;|house lines 1;");
        faulty(2, "house lines 1;bill 1;|house lines 4;");
        faulty(2, "|lines 1;");
    }

    private static String nested(int nots, int squares, int rounds) {
        return ONE + "pinches:" + "not ".repeat(nots) + "[".repeat(squares) + "(".repeat(rounds) + "1" + ")".repeat(rounds) + "=1"
                + "]".repeat(squares) + ";";
    }

    private static void within() {
        Edge.of(Edge.TERMS, "At most six of not [ ( within one another.");
        for (int nots = 0; nots <= 6; nots++) {
            for (int squares = 0; squares + nots <= 6; squares++) {
                fine(nested(nots, squares, 6 - nots - squares), 2);
            }
        }
        fine(ONE + "pinches:[not[not[not 1=1]]]and not not not not[1=(1)*(1)]or[[[[[(1)=1]]]]];", 2);
        fine(ONE + "changes:((((((1))))))*((((((1))))))-(1)-(1)-(1)-(1)-(1)-(1)-(1);", 2);
        fine(ONE + "pinches:((((((1))))))=((((((1))))));", 2);
        Edge.of(Edge.TERMS, "a seventh of not [ (.");
        for (int nots = 0; nots <= 7; nots++) {
            for (int squares = 0; squares + nots <= 7; squares++) {
                int rounds = 7 - nots - squares;
                int seventh = nots == 7 ? 4 * 6 : 4 * nots + squares + rounds - 1;
                faulty(nested(nots, squares, rounds), 4, 22 + seventh);
            }
        }
        faulty(4, ONE + "changes:((((((|(1)))))));");
        faulty(4, ONE + "pinches:[1=1]and[[[[[[|[1=1");
        faulty(4, ONE + "pinches:1=1 and not not not not not not |not");
    }
}
