import java.nio.charset.StandardCharsets;
import java.util.Arrays;

/** What the project's tests share: counting checks, feeding texts. */
final class Check {
    static final int NO = Integer.MIN_VALUE;

    private static int passed;
    private static int failed;

    private Check() {
    }

    static void due(String call, long got, long want) {
        if (got == want) {
            passed++;
        } else {
            failed++;
            if (failed <= 50) {
                System.out.println(call + " answered " + got + ", due is " + want);
            }
        }
    }

    static void isTrue(String what, boolean holds) {
        due(what, holds ? 1 : 0, 1);
    }

    /** How many checks failed so far. */
    static int failed() {
        return failed;
    }

    static void end() {
        System.out.println(passed + " passed, " + failed + " failed");
        System.exit(failed == 0 && passed > 0 ? 0 : 1);
    }

    /** Feeds the bytes of a text, with blanks behind it up to twenty; how many feed() calls. */
    static int feed(EventLedger x, String text) {
        byte[] bytes = text.getBytes(StandardCharsets.ISO_8859_1);
        byte[] padded = Arrays.copyOf(bytes, (bytes.length + 19) / 20 * 20);
        Arrays.fill(padded, bytes.length, padded.length, (byte) ' ');
        int calls = 0;
        for (int i = 0; i < padded.length; i += 20) {
            x.feed(four(padded, i), four(padded, i + 4), four(padded, i + 8), four(padded, i + 12), four(padded, i + 16));
            calls++;
        }
        return calls;
    }

    static int four(byte[] bytes, int from) {
        return (bytes[from] & 255) << 24 | (bytes[from + 1] & 255) << 16 | (bytes[from + 2] & 255) << 8 | bytes[from + 3] & 255;
    }

    /** Feeds a text and asks for it: what text() answers. */
    static int tell(EventLedger x, String text) {
        feed(x, text);
        return x.text(text.length());
    }

    static EventLedger told(String text) {
        EventLedger x = new EventLedger();
        isTrue("text without a fault: " + text, tell(x, text) >= 0);
        return x;
    }

    /** A text without a FAULT: how many LINES it must have. */
    static EventLedger fits(String text, int lines) {
        EventLedger x = new EventLedger();
        due("text of " + text, tell(x, text), lines);
        due("fault(0) of " + text, x.fault(0), 0);
        due("fault(1) of " + text, x.fault(1), -1);
        return x;
    }

    /** A text with a FAULT where the sign ^ stands (that is no part of it). */
    static void faulty(String marked, int fault) {
        int place = marked.indexOf('^');
        String text = marked.substring(0, place) + marked.substring(place + 1);
        EventLedger x = told("account q;put q 7 2 8 9;");
        String ahead = picture(x);
        due("text of " + marked, tell(x, text), -1);
        due("fault(0) of " + marked, x.fault(0), fault);
        due("fault(1) of " + marked, x.fault(1), place);
        isTrue("all else stays behind " + marked, ahead.equals(picture(x)));
    }

    /** All that an object answers without being changed by it, but for its FAULT. */
    static String picture(EventLedger x) {
        StringBuilder all = new StringBuilder();
        for (int i = 0; i <= 12; i++) {
            all.append(x.count(i)).append(' ');
        }
        for (int e = 0; e < x.count(1); e++) {
            for (int w = 0; w < 8; w++) {
                all.append(of(x, e, w)).append(' ');
            }
            for (int f = 1; f <= 3; f++) {
                all.append(x.field(e, f, false)).append(' ').append(x.field(e, f, true)).append(' ');
            }
        }
        for (int k = 0; k < x.count(3); k++) {
            all.append(x.snapshot(k)).append(' ');
        }
        for (int a = 0; a < x.count(0); a++) {
            for (int w = 0; w < 4; w++) {
                all.append(x.account(a, w)).append(' ');
            }
            for (int t = 0; t < x.count(2); t++) {
                all.append(x.sum(t, a)).append(' ');
            }
        }
        for (int t = 0; t < x.count(2); t++) {
            for (int w = 0; w < 7; w++) {
                all.append(x.tally(t, w)).append(' ');
            }
        }
        return all.append(x.chance(-1, 1, 1)).toString();
    }

    /** A name's letters as named() takes them. */
    static int letters(String name) {
        int packed = 0;
        for (int i = 0; i < 6; i++) {
            packed = packed << 5 | (i < name.length() ? name.charAt(i) - 'a' + 1 : 0);
        }
        return packed;
    }

    /** What of() answers; 1000001 for IndexOutOfBoundsException, 1000002 for NoSuchElementException. */
    static long of(EventLedger x, int event, int what) {
        try {
            return x.of(event, what);
        } catch (IndexOutOfBoundsException e) {
            return e.getClass() == IndexOutOfBoundsException.class ? 1000001 : 1000003;
        } catch (java.util.NoSuchElementException e) {
            return e.getClass() == java.util.NoSuchElementException.class ? 1000002 : 1000003;
        }
    }
}
