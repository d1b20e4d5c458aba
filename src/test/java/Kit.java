import java.util.ArrayList;
import java.util.Arrays;
import java.util.List;
import java.util.NoSuchElementException;

/** What the tests share: feeding texts, and counting answers that are not due. */
final class Kit {
    /** What rests answers here when it throws. */
    static final int THROWN = -9;

    /** Some calls on an object; the answer of the last one, a boolean counting 1 or 0. */
    interface Calls {
        int on(IceParliament x);
    }

    private final String test;
    private int asked;
    private int wrong;

    Kit(String test) {
        this.test = test;
    }

    void due(String call, long got, long want) {
        asked++;
        if (got != want) {
            wrong++;
            System.out.println(test + ": " + call + " answered " + got + ", due is " + want);
        }
    }

    void due(String call, boolean got, boolean want) {
        due(call, got ? 1 : 0, want ? 1 : 0);
    }

    /** Several answers at once, written side by side. */
    void row(String call, int[] got, int... want) {
        due(call + " (how many)", got.length, want.length);
        for (int i = 0; i < Math.min(got.length, want.length); i++) {
            due(call + " [" + i + "]", got[i], want[i]);
        }
    }

    /** A call that is refused, or only asks: it answers as due, and all stays as it was without it. */
    void refused(String call, Calls before, Calls refused, int want) {
        IceParliament with = new IceParliament();
        before.on(with);
        due(call, refused.on(with), want);
        stays(call, before, with);
    }

    /** Calls that do something and take it back: all is as it was without them. */
    void asBefore(String calls, Calls before, Calls there) {
        IceParliament with = new IceParliament();
        before.on(with);
        there.on(with);
        stays(calls, before, with);
    }

    private void stays(String call, Calls before, IceParliament with) {
        IceParliament without = new IceParliament();
        before.on(without);
        List<Integer> got = shot(with);
        List<Integer> stays = shot(without);
        due(call + ": all stays as it was", got.equals(stays), true);
        if (!got.equals(stays)) {
            System.out.println("  with    " + got + "\n  without " + stays);
        }
    }

    void finish() {
        System.out.println(test + ": " + (asked - wrong) + " of " + asked + " answers as due");
        if (wrong != 0 || asked == 0) {
            System.exit(1);
        }
    }

    static int feed(IceParliament x, String text) {
        int size = x.count(12);
        for (int i = 0; i < text.length(); i += 24) {
            size = x.feed(eight(text, i), eight(text, i + 8), eight(text, i + 16));
        }
        return size;
    }

    static long eight(String text, int from) {
        long bytes = 0;
        for (int i = from; i < from + 8; i++) {
            bytes = bytes << 8 | (i < text.length() ? text.charAt(i) & 255 : 0);
        }
        return bytes;
    }

    static int bit(boolean answer) {
        return answer ? 1 : 0;
    }

    static int rests(IceParliament x, int hold, int burn, int loses, int what) {
        try {
            return x.rests(hold, burn, loses, what);
        } catch (NoSuchElementException e) {
            return THROWN;
        }
    }

    /**
     * All that an object shows, then what is undone step by step, what the MARKS bring back, and what the TAPE
     * reads as. It goes back in time, so it is the last that is asked of an object; with two ACTS and two
     * CARVERS it stays within the 512 calls.
     */
    static List<Integer> shot(IceParliament x) {
        List<Integer> all = new ArrayList<>();
        for (int what = 0; what < 13; what++) {
            all.add(x.count(what));
        }
        for (int act = 0; act < x.count(2); act++) {
            for (int what = 0; what < 9; what++) {
                all.add(x.act(act, what));
            }
        }
        for (int carver = 0; carver < x.count(1); carver++) {
            for (int what = 0; what < 4; what++) {
                all.add(x.carver(carver, what));
            }
        }
        all.addAll(Arrays.asList(x.side(0), x.side(1), x.judged(0), x.judged(1), x.judged(2), x.sets(0), x.sets(1),
            x.sets(2), x.stands(0, 8), x.stands(1, 8), x.mend(1)));
        while (x.undo()) {
            addMoment(all, x);
        }
        for (int mark = 0; mark < 4; mark++) {
            all.add(bit(x.mark(mark, true)));
            addMoment(all, x);
        }
        all.add(x.yard());
        return all;
    }

    private static void addMoment(List<Integer> all, IceParliament x) {
        for (int what : new int[] {4, 6, 7, 10}) {
            all.add(x.count(what));
        }
        for (int act = 0; act < x.count(2); act++) {
            for (int what : new int[] {1, 2, 4, 5}) {
                all.add(x.act(act, what));
            }
        }
        for (int carver = 0; carver < x.count(1); carver++) {
            all.add(x.carver(carver, 2));
            all.add(x.carver(carver, 3));
        }
    }

    static int yard(IceParliament x, String text) {
        feed(x, text);
        return x.yard();
    }

    static int session(IceParliament x, String text) {
        feed(x, text);
        return x.session();
    }

    /** A new object with a yard that has no FAULT. */
    static IceParliament with(String text) {
        IceParliament x = new IceParliament();
        int fault = yard(x, text);
        if (fault != 0) {
            throw new IllegalStateException("the test's own yard has the fault " + fault + ": " + text);
        }
        return x;
    }

    static int fault(String yard) {
        return yard(new IceParliament(), yard);
    }

    /** The fault of a kind at the n-th place (from 0) where a piece stands in a text. */
    static int at(int kind, String text, String piece, int nth) {
        int place = -1;
        for (int i = 0; i <= nth; i++) {
            place = text.indexOf(piece, place + 1);
            if (place < 0) {
                throw new IllegalStateException("no such piece: " + piece);
            }
        }
        return kind + 16 * place;
    }

    static int end(String text) {
        return 1 + 16 * text.length();
    }
}
