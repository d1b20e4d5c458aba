/** What the tests share: feeding texts, and counting answers that are not due. */
final class Kit {
    private final String test;
    private int asked;
    private int wrong;

    Kit(String test) {
        this.test = test;
    }

    void due(String call, long got, long want) {
        asked++;
        if (got != want) {
            wrong++;
            System.out.println(test + ": " + call + " answered " + got + ", due is " + want);
        }
    }

    void due(String call, boolean got, boolean want) {
        due(call, got ? 1 : 0, want ? 1 : 0);
    }

    /** Several answers at once, written side by side. */
    void row(String call, int[] got, int... want) {
        due(call + " (how many)", got.length, want.length);
        for (int i = 0; i < Math.min(got.length, want.length); i++) {
            due(call + " [" + i + "]", got[i], want[i]);
        }
    }

    void finish() {
        System.out.println(test + ": " + (asked - wrong) + " of " + asked + " answers as due");
        if (wrong != 0 || asked == 0) {
            System.exit(1);
        }
    }

    static int feed(IceParliament x, String text) {
        int size = x.count(12);
        for (int i = 0; i < text.length(); i += 24) {
            size = x.feed(eight(text, i), eight(text, i + 8), eight(text, i + 16));
        }
        return size;
    }

    static long eight(String text, int from) {
        long bytes = 0;
        for (int i = from; i < from + 8; i++) {
            bytes = bytes << 8 | (i < text.length() ? text.charAt(i) & 255 : 0);
        }
        return bytes;
    }

    static int yard(IceParliament x, String text) {
        feed(x, text);
        return x.yard();
    }

    static int session(IceParliament x, String text) {
        feed(x, text);
        return x.session();
    }

    /** A new object with a yard that has no FAULT. */
    static IceParliament with(String text) {
        IceParliament x = new IceParliament();
        int fault = yard(x, text);
        if (fault != 0) {
            throw new IllegalStateException("the test's own yard has the fault " + fault + ": " + text);
        }
        return x;
    }

    static int fault(String yard) {
        return yard(new IceParliament(), yard);
    }

    /** The fault of a kind at the n-th place (from 0) where a piece stands in a text. */
    static int at(int kind, String text, String piece, int nth) {
        int place = -1;
        for (int i = 0; i <= nth; i++) {
            place = text.indexOf(piece, place + 1);
            if (place < 0) {
                throw new IllegalStateException("no such piece: " + piece);
            }
        }
        return kind + 16 * place;
    }

    static int end(String text) {
        return 1 + 16 * text.length();
    }
}
