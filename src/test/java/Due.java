import java.nio.charset.StandardCharsets;
import java.util.Arrays;

/** What the tests share: calls are checked against what is due, texts are put on a tape. */
final class Due {
    private int wrong = 0;
    private int checked = 0;

    void is(String call, long got, long want) {
        checked++;
        if (got != want) {
            wrong++;
            if (wrong <= 100) {
                System.out.println(call + " answered " + got + ", due is " + want);
            }
        }
    }

    void is(String call, boolean got, boolean want) {
        is(call, got ? 1 : 0, want ? 1 : 0);
    }

    int wrong() {
        return wrong;
    }

    void end() {
        System.out.println(checked + " answers, " + wrong + " of them not as due");
        if (wrong != 0 || checked == 0) {
            System.exit(1);
        }
    }

    static void type(LostBuyer x, String text) {
        type(x, text.getBytes(StandardCharsets.ISO_8859_1));
    }

    /** Twenty bytes at a time; what is too much of the last twenty is taken back. */
    static void type(LostBuyer x, byte[] text) {
        for (int from = 0; from < text.length; from += 20) {
            byte[] b = Arrays.copyOf(Arrays.copyOfRange(text, from, Math.min(from + 20, text.length)), 20);
            x.feed(four(b, 0), four(b, 4), four(b, 8), four(b, 12), four(b, 16));
            if (text.length - from < 20) {
                x.back(20 - (text.length - from));
            }
        }
    }

    private static int four(byte[] b, int i) {
        return (b[i] & 255) << 24 | (b[i + 1] & 255) << 16 | (b[i + 2] & 255) << 8 | b[i + 3] & 255;
    }

    /** A new object that has read a text without fault. */
    LostBuyer of(String text) {
        LostBuyer x = new LostBuyer();
        type(x, text);
        is("read() of " + text, x.read(), 0);
        return x;
    }
}
