/**
 * A house of three lines and eight people in which a bill goes through all from 0 to 799, one figure by one at a time:
 * 0, 1 .. 9, 19, 18 .. 10, 20 .. 90, 190 .. till 800. Only person 7 changes it; the others leave all as it was.
 */
final class LongWay {
    private static final String BIG = "999*999*2";

    private LongWay() {
    }

    static String text(String pinches) {
        String a = signOf("one", 13);
        String b = signOf("two", 17);
        String third = "line*(line-1)*" + a + "*" + b;
        String thirdIsThere = atAnEnd("three") + "*(" + a + "*" + b + "*(2*three-9)+" + BIG + ")";
        String second = "line*(line-2)*" + a;
        String secondIsThere = atAnEnd("two") + "*(" + BIG + "-" + a + "*999*(2*two-9))";
        return "house lines 3;" + "person 0 0 0;".repeat(7) + "person 1 0 0;pinches:" + pinches + ";changes:hat*(" + third + "+"
                + thirdIsThere + "*(" + second + "+(1-line)*(2-line)*" + secondIsThere + "));";
    }

    /** Below 0 if a figure is even, above if it is odd: of so many factors each is below 0 while it is small. */
    private static String signOf(String figure, int most) {
        StringBuilder s = new StringBuilder("(2*" + figure + "-1)");
        for (int k = 3; k <= most; k += 2) {
            s.append("*(2*").append(figure).append('-').append(k).append(')');
        }
        return s.toString();
    }

    /** Above 0 if a figure is 0 or 9, else 0, for sums are kept to a million. */
    private static String atAnEnd(String figure) {
        return "(" + BIG + "-999*999*" + figure + "*(9-" + figure + "))";
    }

    /** What bill 0 is when person 7 has spoken so often, till 800. */
    static int bill(int changes) {
        if (changes >= 800) {
            return 800;
        }
        int a = changes / 100;
        int b = changes / 10 % 10;
        int c = changes % 10;
        return 100 * a + 10 * (a % 2 == 0 ? b : 9 - b) + (b % 2 == 0 ? c : 9 - c);
    }
}
