import java.nio.charset.StandardCharsets;
import java.util.Arrays;

/** What the tests share: telling a house, and counting answers that are not due. */
final class Check {
    private static int asked = 0;
    private static int wrong = 0;

    interface Call {
        long answer();
    }

    private Check() {
    }

    static void due(String call, long got, long want) {
        asked++;
        if (got != want) {
            wrong++;
            System.out.println(call + " answered " + got + ", due is " + want);
        }
    }

    static void dueThrow(String call, Class<? extends RuntimeException> want, Call made) {
        asked++;
        String got;
        try {
            got = Long.toString(made.answer());
        } catch (RuntimeException e) {
            got = e.getClass().getSimpleName();
        }
        if (!got.equals(want.getSimpleName())) {
            wrong++;
            System.out.println(call + " answered " + got + ", due is " + want.getSimpleName());
        }
    }

    /** Feeds the bytes, filled up with blanks to a multiple of twenty. */
    static void feed(PinchedBill x, byte[] text) {
        byte[] full = Arrays.copyOf(text, (text.length + 19) / 20 * 20);
        Arrays.fill(full, text.length, full.length, (byte) 32);
        for (int i = 0; i < full.length; i += 20) {
            x.feed(four(full, i), four(full, i + 4), four(full, i + 8), four(full, i + 12), four(full, i + 16));
        }
    }

    static int four(byte[] b, int i) {
        return (b[i] & 255) << 24 | (b[i + 1] & 255) << 16 | (b[i + 2] & 255) << 8 | b[i + 3] & 255;
    }

    static byte[] bytes(String text) {
        return text.getBytes(StandardCharsets.ISO_8859_1);
    }

    static int tell(PinchedBill x, String text) {
        byte[] b = bytes(text);
        feed(x, b);
        return x.house(b.length);
    }

    /** A new object with a house that must have no fault. */
    static PinchedBill housed(String text) {
        PinchedBill x = new PinchedBill();
        int lines = tell(x, text);
        due("a house is told: " + text + " (its fault)", x.fault(0), 0);
        due("a house is told: " + text + " (lines above 0)", lines > 0 ? 1 : 0, 1);
        return x;
    }

    static void fillTray(PinchedBill x, int tray, int sort, long... numbers) {
        x.tray(tray, sort, numbers.length);
        for (int i = 0; i < numbers.length; i++) {
            x.write(tray, i, numbers[i]);
        }
    }

    static void end() {
        System.out.println(asked + " answers, " + wrong + " of them not as due");
        if (wrong != 0 || asked == 0) {
            System.exit(1);
        }
    }
}
