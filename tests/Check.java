import java.nio.charset.StandardCharsets;
import java.util.Arrays;

/** What the project's tests share: counting checks, feeding texts. */
final class Check {
    static final int NO = Integer.MIN_VALUE;

    private static int passed;
    private static int failed;

    private Check() {
    }

    static void due(String call, long got, long want) {
        if (got == want) {
            passed++;
        } else {
            failed++;
            if (failed <= 50) {
                System.out.println(call + " answered " + got + ", due is " + want);
            }
        }
    }

    static void isTrue(String what, boolean holds) {
        due(what, holds ? 1 : 0, 1);
    }

    /** How many checks failed so far. */
    static int failed() {
        return failed;
    }

    static void end() {
        System.out.println(passed + " passed, " + failed + " failed");
        System.exit(failed == 0 && passed > 0 ? 0 : 1);
    }

    /** Feeds the bytes of a text, with blanks behind it up to twenty; how many feed() calls. */
    static int feed(EventLedger x, String text) {
        byte[] bytes = text.getBytes(StandardCharsets.ISO_8859_1);
        byte[] padded = Arrays.copyOf(bytes, (bytes.length + 19) / 20 * 20);
        Arrays.fill(padded, bytes.length, padded.length, (byte) ' ');
        int calls = 0;
        for (int i = 0; i < padded.length; i += 20) {
            x.feed(four(padded, i), four(padded, i + 4), four(padded, i + 8), four(padded, i + 12), four(padded, i + 16));
            calls++;
        }
        return calls;
    }

    static int four(byte[] bytes, int from) {
        return (bytes[from] & 255) << 24 | (bytes[from + 1] & 255) << 16 | (bytes[from + 2] & 255) << 8 | bytes[from + 3] & 255;
    }

    /** Feeds a text and asks for it: what text() answers. */
    static int tell(EventLedger x, String text) {
        feed(x, text);
        return x.text(text.length());
    }

    static EventLedger told(String text) {
        EventLedger x = new EventLedger();
        isTrue("text without a fault: " + text, tell(x, text) >= 0);
        return x;
    }

    /** A name's letters as named() takes them. */
    static int letters(String name) {
        int packed = 0;
        for (int i = 0; i < 6; i++) {
            packed = packed << 5 | (i < name.length() ? name.charAt(i) - 'a' + 1 : 0);
        }
        return packed;
    }

    /** What of() answers; 1000001 for IndexOutOfBoundsException, 1000002 for NoSuchElementException. */
    static long of(EventLedger x, int event, int what) {
        try {
            return x.of(event, what);
        } catch (IndexOutOfBoundsException e) {
            return e.getClass() == IndexOutOfBoundsException.class ? 1000001 : 1000003;
        } catch (java.util.NoSuchElementException e) {
            return e.getClass() == java.util.NoSuchElementException.class ? 1000002 : 1000003;
        }
    }
}
