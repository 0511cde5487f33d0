/** The text of a house: tokens, faults and their places, what later ones strike, the laws' language. */
public final class TextTest {
    private TextTest() {
    }

    public static void main(String[] args) {
        tokens();
        heads();
        marksAndFlags();
        bills();
        laws();
        nesting();
        leastKindFirst();
        later();
        truths();
        sums();
        words();
        Check.end();
    }

    private static void faulty(String text, int kind, int place) {
        PinchedBill x = new PinchedBill();
        Check.due("house: " + text, Check.tell(x, text), -10 - kind);
        Check.due("fault(0): " + text, x.fault(0), kind);
        Check.due("fault(1): " + text, x.fault(1), place);
    }

    private static void fine(String text, int lines) {
        PinchedBill x = new PinchedBill();
        Check.due("house: " + text, Check.tell(x, text), lines);
        Check.due("fault(0): " + text, x.fault(0), 0);
        Check.due("fault(1): " + text, x.fault(1), -1);
    }

    private static void tokens() {
        fine("house lines 1;", 1);
        fine("  house\nlines\n\n1 ; ", 1);
        fine("house lines1;person1;", 2);
        fine("house lines 001;person 009 temper 010;", 2);
        faulty("houselines 1;", 2, 0);
        faulty("house lines 1;\tperson 1;", 1, 14);
        faulty("house lines 1;\rperson 1;", 1, 14);
        faulty("House lines 1;", 1, 0);
        faulty("house lines 1,", 1, 13);
        faulty("house lines 0001;", 1, 12);
        faulty("house lines 1;changes:12345;", 1, 22);
        faulty("house lines 1;changes:1+0000;", 1, 24);
        faulty("house lines 1;zoo 1;", 2, 14);
        faulty("house lines 1;zz", 2, 14);
        faulty("house lines 1;rill 1;", 2, 14);
        faulty("house lines 1;billy 1;", 2, 14);
        faulty("house lines 1;bil 1;", 2, 14);
        faulty("mouse lines 1;", 2, 0);
        faulty("house lines 1;changes:bead;", 2, 22);
        faulty("house lines 1;changes:gat;", 2, 22);
        faulty("house lines 1;changes:1/1;", 1, 23);
        faulty("house lines 1;changes:`;", 1, 22);
        faulty("house lines 1;changes:@;", 1, 22);
        faulty("house lines 1;changes:1,1;", 1, 23);
        faulty("house lines 1;{", 1, 14);
        faulty("house lines 1;" + (char) 233, 1, 14);
        faulty("house lines 1;" + (char) 0, 1, 14);
    }

    private static void heads() {
        faulty("", 2, 0);
        faulty("   ", 2, 3);
        faulty("house", 2, 5);
        faulty("house lines", 2, 11);
        faulty("house lines 1", 2, 13);
        faulty("house lines 1  ", 2, 15);
        faulty("house line 1;", 2, 6);
        faulty("lines 1;", 2, 0);
        faulty("house lines one;", 2, 12);
        faulty("house lines 0;", 3, 12);
        faulty("house lines 4;", 3, 12);
        faulty("house lines 999;", 3, 12);
        faulty("house lines 1 2;", 2, 14);
        faulty("house lines 1;;", 2, 14);
        faulty("house lines 1;house lines 1;", 2, 14);
        faulty("house lines 1;people 1;", 2, 14);
        faulty("house lines 1;1;", 2, 14);
        faulty("bill 1;house lines 1;", 2, 0);
        fine("house lines 3;bill 1 2 3;", 2);
    }

    private static void marksAndFlags() {
        faulty("house lines 2;person 1;", 2, 22);
        faulty("house lines 2;person 1 out;", 2, 23);
        faulty("house lines 2;person;", 2, 20);
        faulty("house lines 2;person 1 2 3;", 2, 25);
        faulty("house lines 1;person 10;", 3, 21);
        faulty("house lines 1;person 1 10;", 2, 23);
        faulty("house lines 1;person 1 out 1;", 2, 27);
        faulty("house lines 1;person 1 temper;", 2, 29);
        faulty("house lines 1;person 1 temper out;", 2, 30);
        faulty("house lines 1;person 1 temper 11;", 3, 30);
        faulty("house lines 1;person 1 temper 5 5;", 2, 32);
        faulty("house lines 1;person 1 in;", 2, 23);
        faulty("house lines 1;person 1 out", 2, 26);
        fine("house lines 1;person 1 temper 10 out out temper 0;", 2);
        String eight = "house lines 1;person 1;person 1;person 1;person 1;person 1;person 1;person 1;person 1;";
        fine(eight, 9);
        faulty(eight + "person 1;", 4, 86);
        faulty(eight + "bill 1; person", 4, 94);
        faulty(eight + "bill 1 person 1;", 2, 93);
        faulty(eight + "bill 10;person 1;", 3, 91);
    }

    private static void bills() {
        faulty("house lines 2;bill 1;", 2, 20);
        faulty("house lines 2;bill;", 2, 18);
        faulty("house lines 2;bill 1 2 3;", 2, 23);
        faulty("house lines 2;bill 1 10;", 3, 21);
        faulty("house lines 2;bill 1 2 out;", 2, 23);
        faulty("house lines 2;bill:1 2;", 2, 18);
        fine("house lines 3;bill 0 9 0;", 2);
    }

    private static void laws() {
        faulty("house lines 1;pinches 1=1;", 2, 22);
        faulty("house lines 1;pinches:;", 2, 22);
        faulty("house lines 1;pinches:1;", 2, 23);
        faulty("house lines 1;pinches:1=1=1;", 2, 25);
        faulty("house lines 1;pinches:1==1;", 2, 24);
        faulty("house lines 1;pinches:line=1;", 2, 22);
        faulty("house lines 1;pinches:1=(line);", 2, 25);
        faulty("house lines 1;pinches:1=1 and;", 2, 29);
        faulty("house lines 1;pinches:1=1 xor 1=1;", 2, 26);
        faulty("house lines 1;pinches:(1=1);", 2, 24);
        faulty("house lines 1;pinches:[1]=1;", 2, 24);
        faulty("house lines 1;pinches:[1=1;", 2, 26);
        faulty("house lines 1;pinches:[1=1)", 2, 26);
        faulty("house lines 1;pinches:not;", 2, 25);
        faulty("house lines 1;pinches:1=not 1;", 2, 24);
        faulty("house lines 1;changes:1=1;", 2, 23);
        faulty("house lines 1;changes:-1;", 2, 22);
        faulty("house lines 1;changes:1+;", 2, 24);
        faulty("house lines 1;changes:1**1;", 2, 24);
        faulty("house lines 1;changes:(1;", 2, 24);
        faulty("house lines 1;changes:();", 2, 23);
        faulty("house lines 1;changes:[1];", 2, 22);
        faulty("house lines 1;changes:not 1;", 2, 22);
        faulty("house lines 1;changes:1 1;", 2, 24);
        faulty("house lines 1;changes:four;", 2, 22);
        faulty("house lines 1;changes:ones;", 2, 22);
        faulty("house lines 1;changes:1", 2, 23);
        faulty("house lines 1;changes:1#", 1, 23);
        fine("house lines 1;changes:line*999;", 2);
        fine("house lines 1;pinches:one=two and three=hat or head=height and not who=0;", 2);
    }

    private static void nesting() {
        fine("house lines 1;pinches:not not not not not not 1=1;", 2);
        faulty("house lines 1;pinches:not not not not not not not 1=1;", 4, 46);
        fine("house lines 1;pinches:[[[[[[1=1]]]]]];", 2);
        faulty("house lines 1;pinches:[[[[[[[1=1]]]]]]];", 4, 28);
        fine("house lines 1;changes:((((((1))))));", 2);
        faulty("house lines 1;changes:(((((((1)))))));", 4, 28);
        fine("house lines 1;pinches:not [not [((1))=1]];", 2);
        faulty("house lines 1;pinches:not [not [((1))=((((1))))]];", 4, faultPlaceOfDeep());
        fine("house lines 1;pinches:not 1=1 and not 1=1 and not 1=1 and not 1=1 and not 1=1 and not 1=1 and not 1=1;", 2);
        fine("house lines 1;changes:(1)+(1)+(1)+(1)+(1)+(1)+(1)+(1);", 2);
        fine("house lines 1;pinches:[1=1]and[[[[[(1)=1]]]]];", 2);
        faulty("house lines 1;pinches:not[not[not[1=1 and 1=(((1)))+((((1))))]]];", 4, 44);
        faulty("house lines 1;changes:((((((1)))))(;", 2, 34);
        faulty("house lines 1;changes:((((((1 (", 2, 30);
    }

    /** Of not [ not [ and three ( more the seventh. */
    private static int faultPlaceOfDeep() {
        return "house lines 1;pinches:not [not [((1))=((((1))))]];".indexOf("((((") + 2;
    }

    private static void leastKindFirst() {
        faulty("house lines 1;person 1 99999;", 1, 23);
        faulty("house lines 2;person 99 1 1;#", 3, 21);
        faulty("house lines 2;person 9 9 # person", 1, 25);
        faulty("house lines 9;person 1 99999;", 3, 12);
        faulty("house lines 2;bill 5 ; # 10", 2, 21);
    }

    private static void later() {
        PinchedBill x = Check.housed("house lines 2;person 1 2 out temper 3 temper 4;person 9 9;bill 1 2;bill 3 4;"
                + "pinches:1=2;changes:1;pinches:one<9 and who=1;changes:line-1;");
        Check.due("later: bill", x.bill(), 340);
        Check.due("later: temper", x.person(0, 3), 4);
        Check.due("later: pinches", x.pinched(340), 2);
        Check.due("later: changes", x.spoken(340, 1), 240);
        Check.due("later: lines of text", x.count(0), 9);
        PinchedBill y = Check.housed("house lines 1;bill 5;person 2;");
        Check.due("later: bill ahead of people", y.bill(), 500);
        Check.due("later: numbered from 0 on", y.person(0, 0), 2);
    }

    private static void holds(String truth, boolean want) {
        PinchedBill x = Check.housed("house lines 3;person 1 2 3;pinches:" + truth + ";bill 4 5 6;");
        Check.due(truth, x.pinched(456), want ? 1 : 0);
    }

    private static void truths() {
        holds("1=1", true);
        holds("1=2", false);
        holds("1<2", true);
        holds("2<2", false);
        holds("2>1", true);
        holds("2>2", false);
        holds("1=2 and 1=2 or 1=1", true);
        holds("1=1 or 1=1 and 1=2", true);
        holds("[1=1 or 1=1] and 1=2", false);
        holds("not 1=2 and 1=2", false);
        holds("not [1=2 and 1=2]", true);
        holds("not not 1=1", true);
        holds("not 1=1 or 1=1", true);
        holds("1=2 or 1=2 or 1=1", true);
        holds("1=1 and 1=1 and 1=2", false);
    }

    private static void sums() {
        holds("10-3-2=5", true);
        holds("10-3+2=9", true);
        holds("2+3*4=14", true);
        holds("(2+3)*4=20", true);
        holds("2*3*4=24", true);
        holds("10-(3-2)=9", true);
        holds("0-5<0", true);
        holds("999*999*9=(999+1)*(999+1)", true);
        holds("999*999*9-1=999*999+999+999", true);
        holds("0-999*999*9-1=0-(999+1)*(999+1)", true);
        holds("(0-999*999)*9+1=0-999*999-999-999", true);
        holds("(999+1)*(999+1)*(999+1)*(999+1)=999*999*9", true);
        holds("(0-(999+1)*999)*(999*999)<0-999*999-999-999", true);
        holds("(999+1)*(999+1)+1=(999+1)*(999+1)", true);
        holds("007=7", true);
    }

    private static void words() {
        holds("one=4 and two=5 and three=6", true);
        holds("hat=1 and head=2 and height=3", true);
        holds("who=0", true);
        PinchedBill x = Check.housed("house lines 1;person 9;person 8;pinches:two=0 and three=0 and head=0 and height=0 and who+hat=9;");
        Check.due("words it hasn't are 0, who is its number", x.pinched(0), 3);
        PinchedBill y = Check.housed("house lines 3;person 0 0 0;changes:line*(line-1)*500+line-1;");
        Check.due("line is 0, 1, 2", y.spoken(555, 0), 456);
        PinchedBill z = Check.housed("house lines 3;person 1 2 3;person 1 2 3;changes:(hat+head+height-6)*99+who*2-1;");
        Check.due("who in changes: 0", z.spoken(555, 0), 444);
        Check.due("who in changes: 1", z.spoken(555, 1), 666);
    }
}
