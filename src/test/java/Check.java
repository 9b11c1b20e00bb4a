import java.nio.charset.StandardCharsets;
import java.util.ArrayList;
import java.util.Arrays;
import java.util.List;

/** What all tests use: comparing answers, and writing a text on the tape. */
final class Check {
    private int wrong = 0;
    private int right = 0;

    interface Call {
        Object answer();
    }

    void equal(String what, Object want, Object got) {
        if (want.equals(got)) {
            right++;
        } else {
            wrong++;
            System.out.println("WRONG " + what + ": due is " + want + ", answered " + got);
        }
    }

    /** The very class has to be thrown, not one below it, which the machine might throw. */
    void refuses(String what, Class<? extends RuntimeException> want, Call call) {
        Object got;
        try {
            got = call.answer();
        } catch (RuntimeException e) {
            got = e.getClass();
        }
        equal(what, want, got);
    }

    void noStray(String what, Call call) {
        refuses(what, IndexOutOfBoundsException.class, call);
    }

    void notNow(String what, Call call) {
        refuses(what, IllegalStateException.class, call);
    }

    void badArgument(String what, Call call) {
        refuses(what, IllegalArgumentException.class, call);
    }

    /** Teaches a text to a machine and compares the error and its position. */
    void teaches(String text, int error, int position) {
        MarkShelter x = new MarkShelter();
        write(x, text);
        equal("teach() of " + text, error, x.teach());
        equal("errorAt() of " + text, position, x.errorAt());
    }

    void end() {
        System.out.println(right + " right, " + wrong + " wrong");
        if (wrong > 0) {
            System.exit(1);
        }
    }

    /** Appends a text of at most 2000 bytes to an empty tape. */
    static void write(MarkShelter x, String text) {
        write(x, text.getBytes(StandardCharsets.ISO_8859_1));
    }

    static void write(MarkShelter x, byte[] text) {
        byte[] row = Arrays.copyOf(text, (text.length + 19) / 20 * 20);
        int length = 0;
        for (int i = 0; i < row.length; i += 20) {
            length = x.feed(number(row, i), number(row, i + 4), number(row, i + 8),
                number(row, i + 12), number(row, i + 16));
        }
        x.trim(length - (row.length - text.length));
    }

    private static int number(byte[] row, int i) {
        return row[i] << 24 | (row[i + 1] & 255) << 16 | (row[i + 2] & 255) << 8 | row[i + 3] & 255;
    }

    /** What a machine answers to all calls that change nothing and take no number but a stray or a house. */
    static List<Object> everything(MarkShelter x) {
        List<Object> all = new ArrayList<>(List.of(x.errorAt(), x.strays(), x.houses(), x.coins(), x.day(),
            x.ordersCarriedOut(), x.here(), x.adopted(), x.gone(), x.room(), x.hungriest(), x.bestToFeed(),
            x.meanHunger(), x.digest()));
        for (int i = 0; i < x.strays(); i++) {
            all.addAll(List.of(x.kindOf(i), x.dayOf(i), x.isHere(i), x.isAdopted(i), x.isGone(i), x.isHoused(i),
                x.isPaired(i), x.isReady(i), x.isHere(i) ? x.hungerOf(i) : -1, x.isHere(i) ? x.wildnessOf(i) : -1,
                x.isHoused(i) ? x.houseOf(i) : -1, x.daysUntilGone(i), x.daysUntilAdopted(i)));
        }
        for (int i = 0; i < x.houses(); i++) {
            all.add(x.straysIn(i));
        }
        return all;
    }

    static MarkShelter taught(String text) {
        MarkShelter x = new MarkShelter();
        write(x, text);
        int error = x.teach();
        if (error != 0) {
            throw new AssertionError("error " + error + " at " + x.errorAt() + " of " + text);
        }
        return x;
    }
}
