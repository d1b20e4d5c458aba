import java.util.NoSuchElementException;
import java.util.Random;

/** Drawn runs of calls: every answer of the class must be that of PlainParliament, which tries all one by one. */
public final class AgainstPlainTest {
    private static final int RUNS = 1500;
    private static final int CALLS = 512;
    private static final String[] NAMES = {"a", "b", "cc", "dark", "tall", "ice", "quay", "abcdefgh", "yard", "x", "able",
        "done", "warmth", "p", "q", "r", "s", "t", "u", "v", "w"};
    private static final String[] PIECES = {"spot", "carver", "act", "clash", "nights", "mild", "melts", "carves", "shade",
        "skill", "feet", "chips", "worth", "by", "ayes", "noes", "plain", "hollow", "thin", "old", "not", "and", "or", "(",
        ")", "<", "=", "+", "-", "*", ";", ";", "0", "1", "10", "21", "100", "9999", "12345", "abcdefghi", "!", "A", "\n",
        "begin", "carve", "prop", "torch", "night", "warmth", "dark", "tall", "able", "done", "a", "b", "p", "q", "x"};
    private static final int[] ODD = {Integer.MIN_VALUE, Integer.MAX_VALUE, -3, -2, -1, 6, 7, 8, 9, 10, 13, 31, 41, 61, 10000};

    private final Random random;
    private final Kit kit;
    private final int run;
    private final IceParliament x = new IceParliament();
    private final PlainParliament y = new PlainParliament();
    private int spots;
    private int carvers;
    private int acts;
    private String[] told = new String[18];

    private AgainstPlainTest(Kit kit, int run) {
        this.kit = kit;
        this.run = run;
        this.random = new Random(7919L * run + 1);
    }

    public static void main(String[] args) {
        Kit kit = new Kit("AgainstPlainTest");
        int runs = args.length > 0 ? Integer.parseInt(args[0]) : RUNS;
        int from = args.length > 1 ? Integer.parseInt(args[1]) : 0;
        for (int run = from; run < from + runs; run++) {
            new AgainstPlainTest(kit, run).go();
        }
        kit.finish();
    }

    private int below(int n) {
        return random.nextInt(n);
    }

    private boolean chance(int percent) {
        return below(100) < percent;
    }

    private int number(int count) {
        if (chance(4)) {
            return ODD[below(ODD.length)];
        }
        return count < 1 ? below(2) : below(count);
    }

    private void go() {
        int left = CALLS;
        int faulty = below(4) == 0 ? 60 : 5;
        while (left > 0) {
            if (left == CALLS || chance(1)) {
                left -= give(yardText(), faulty, true);
                while (x.count(0) == 0 && left > 0 && chance(90)) {
                    left -= give(yardText(), faulty, true);
                }
                for (int act = 0; act < 6 && chance(80); act++) {
                    both("begin(" + act + ", " + act + ")", x.begin(act, act), y.begin(act, act));
                    left--;
                }
            } else if (chance(2)) {
                left -= give(sessionText(), faulty, false);
            }
            call();
            left--;
        }
    }

    private void both(String call, int got, int want) {
        kit.due("run " + run + ": " + call, got, want);
    }

    private void both(String call, boolean got, boolean want) {
        kit.due("run " + run + ": " + call, got, want);
    }

    /** Feeds a text, whole or spoiled, and reads it; how many calls that took. */
    private int give(String whole, int faulty, boolean yard) {
        String text = chance(faulty) ? spoil(whole) : whole;
        int calls = 1;
        for (int i = 0; i < text.length();) {
            long[] three = new long[3];
            for (int k = 0; k < 3; k++) {
                long bytes = 0;
                for (int j = 0; j < 8; j++) {
                    boolean noise = i >= text.length() || faulty > 5 && chance(2);
                    bytes = bytes << 8 | (noise ? new int[] {0, 127, 200, 9, 31, 255}[below(6)] : text.charAt(i++));
                }
                three[k] = bytes;
            }
            both("feed", x.feed(three[0], three[1], three[2]), y.feed(three[0], three[1], three[2]));
            calls++;
        }
        if (yard) {
            both("yard of " + text, x.yard(), y.yard());
        } else {
            both("session of " + text, x.session(), y.session());
        }
        spots = x.count(0);
        carvers = x.count(1);
        acts = x.count(2);
        return calls;
    }

    private String spoil(String text) {
        StringBuilder spoiled = new StringBuilder(text);
        int times = 1 + below(3);
        for (int i = 0; i < times; i++) {
            int at = below(spoiled.length() + 1);
            int end = Math.min(spoiled.length(), at + below(6));
            switch (below(4)) {
                case 0: spoiled.insert(at, " " + PIECES[below(PIECES.length)] + " "); break;
                case 1: spoiled.delete(at, end); break;
                case 2: spoiled.setLength(at); break;
                default: spoiled.replace(at, end, PIECES[below(PIECES.length)]); break;
            }
        }
        return spoiled.toString();
    }

    private String yardText() {
        StringBuilder text = new StringBuilder();
        int s = 1 + below(6);
        int c = 1 + below(6);
        int a = 1 + below(6);
        if (chance(5)) {
            s = below(9);
            c = below(9);
            a = below(9);
        }
        told = NAMES.clone();
        int spare = 0;
        String[] movers = new String[c];
        for (int i = 0; i < s; i++) {
            text.append("spot ").append(told[spare++ % NAMES.length]).append(" shade ").append(below(10)).append(";");
        }
        for (int i = 0; i < c; i++) {
            movers[i] = told[spare++ % NAMES.length];
            text.append("carver ").append(movers[i]).append(chance(50) ? " ayes" : " noes")
                .append(" skill ").append(below(10)).append(" ;");
        }
        int firstAct = spare;
        for (int i = 0; i < a; i++) {
            text.append(" act ").append(told[spare++ % NAMES.length]).append(' ')
                .append(new String[] {"plain", "hollow", "thin", "old"}[below(4)]).append(" feet ").append(1 + below(20))
                .append(" chips ").append(1 + below(chance(70) ? 12 : 99)).append(" worth ").append(below(chance(50) ? 4 : 100))
                .append(" by ").append(c == 0 ? "nobody" : movers[below(c)]).append(";");
        }
        for (int i = 0; i < 5 && a > 1; i++) {
            int first = below(a);
            int second = first - 1;
            if (second >= 0 && chance(70)) {
                String line = "clash " + told[(firstAct + first) % NAMES.length] + " "
                    + told[(firstAct + (chance(85) ? second : below(a))) % NAMES.length] + ";";
                if (text.indexOf(line) < 0 || chance(5)) {
                    text.append(line);
                }
            }
        }
        if (chance(60)) {
            text.append("nights");
            int n = 1 + below(chance(97) ? 14 : 16);
            for (int i = 0; i < n; i++) {
                text.append(' ').append(below(chance(60) ? 4 : 10));
            }
            text.append(";");
        }
        if (chance(60)) {
            text.append("mild ").append(below(11)).append(";");
        }
        if (chance(50)) {
            text.append("melts ").append(law(new String[] {"warmth", "dark", "tall"}, 4)).append(";");
        }
        if (chance(50)) {
            text.append("carves ").append(law(new String[] {"able", "tall", "done"}, 4)).append(";");
        }
        return text.toString();
    }

    private String law(String[] facts, int depth) {
        if (depth == 0 || chance(35)) {
            return chance(60) ? facts[below(3)] : "" + below(chance(90) ? 12 : 10000);
        }
        String left = law(facts, depth - 1);
        switch (below(10)) {
            case 0: return "not " + left;
            case 1:
            case 2: return "(" + left + ")";
            case 3: return left + "*" + law(facts, depth - 1);
            case 4: return left + " + " + law(facts, depth - 1);
            case 5:
            case 6: return left + "-" + law(facts, depth - 1);
            case 7: return "(" + left + (chance(50) ? "<" : "=") + law(facts, depth - 1) + ")";
            case 8: return left + " and " + law(facts, depth - 1);
            default: return left + " or " + law(facts, depth - 1);
        }
    }

    private String name(int from, int count) {
        return count < 1 || chance(1) ? NAMES[below(NAMES.length)] : told[(from + below(count)) % NAMES.length];
    }

    private String sessionText() {
        StringBuilder text = new StringBuilder();
        int n = below(chance(90) ? 30 : 45);
        for (int i = 0; i < n; i++) {
            String act = name(spots + carvers, acts);
            switch (below(7)) {
                case 0:
                case 1: text.append("begin ").append(act).append(' ').append(name(0, spots)).append(";"); break;
                case 2:
                case 3: text.append("carve ").append(name(spots, carvers)).append(' ').append(act).append(";"); break;
                case 4: text.append("prop ").append(act).append(";"); break;
                case 5: text.append("torch ").append(act).append(";"); break;
                default: text.append("night;"); break;
            }
        }
        return text.toString();
    }

    private void call() {
        int a = number(acts);
        int c = number(carvers);
        int s = number(spots);
        int n;
        int what;
        switch (below(36)) {
            case 0: what = number(9); both("act(" + a + ", " + what + ")", x.act(a, what), y.act(a, what)); break;
            case 1: what = number(4); both("carver(" + c + ", " + what + ")", x.carver(c, what), y.carver(c, what)); break;
            case 2: both("force()", x.force(), y.force()); break;
            case 3: what = number(2); both("side(" + what + ")", x.side(what), y.side(what)); break;
            case 4:
            case 5: both("begin(" + a + ", " + s + ")", x.begin(a, s), y.begin(a, s)); break;
            case 6:
            case 7:
            case 8:
            case 9: both("carve(" + c + ", " + a + ")", x.carve(c, a), y.carve(c, a)); break;
            case 10: both("prop(" + a + ")", x.prop(a), y.prop(a)); break;
            case 11: both("torch(" + a + ")", x.torch(a), y.torch(a)); break;
            case 12:
                if (chance(60)) {
                    both("night()", x.night(), y.night());
                }
                break;
            case 13:
            case 14: both("undo()", x.undo(), y.undo()); break;
            case 15: what = number(3); both("judged(" + what + ")", x.judged(what), y.judged(what)); break;
            case 16: both("falls(" + a + ")", x.falls(a), y.falls(a)); break;
            case 17: both("clashes()", x.clashes(), y.clashes()); break;
            case 18:
            case 19: what = number(2); both("mend(" + what + ")", x.mend(what), y.mend(what)); break;
            case 20:
                if (chance(25)) {
                    n = 1 + number(6);
                    what = number(1 + carvers);
                    both("work(" + n + ", " + what + ")", x.work(n, what), y.work(n, what));
                }
                break;
            case 21:
                if (chance(25)) {
                    what = number(acts + 1) - 1;
                    both("places(" + what + ")", x.places(what), y.places(what));
                }
                break;
            case 22: n = 1 + number(30); both("thin(" + a + ", " + s + ", " + n + ")", x.thin(a, s, n), y.thin(a, s, n)); break;
            case 23: n = 1 + number(8); both("stands(" + a + ", " + n + ")", x.stands(a, n), y.stands(a, n)); break;
            case 24: n = 1 + number(30); both("propped(" + n + ")", x.propped(n), y.propped(n)); break;
            case 25:
            case 26:
                n = chance(20) ? number(21) : Math.max(0, x.act(a, 1) - x.act(a, 8) - below(2));
                both("tell(" + a + ", " + n + ")", x.tell(a, n), y.tell(a, n));
                break;
            case 27:
            case 28: what = number(3); both("sets(" + what + ")", x.sets(what), y.sets(what)); break;
            case 29:
            case 30: both("look()", x.look(), y.look()); break;
            case 31: rests(number(10), number(10), number(chance(50) ? 10 : 1), number(4) - 1); break;
            case 32:
                int seed = number(10000);
                n = 1 + number(60);
                what = number(3);
                both("decades(" + seed + ", " + n + ", " + what + ")", x.decades(seed, n, what), y.decades(seed, n, what));
                break;
            case 33:
            case 34:
                what = number(4);
                boolean back = chance(40);
                both("mark(" + what + ", " + back + ")", x.mark(what, back), y.mark(what, back));
                break;
            default: what = number(13); both("count(" + what + ")", x.count(what), y.count(what)); break;
        }
    }

    private void rests(int hold, int burn, int loses, int what) {
        int got;
        int want;
        try {
            got = x.rests(hold, burn, loses, what);
        } catch (NoSuchElementException e) {
            got = -9;
        }
        try {
            want = y.rests(hold, burn, loses, what);
        } catch (NoSuchElementException e) {
            want = -9;
        }
        both("rests(" + hold + ", " + burn + ", " + loses + ", " + what + ")", got, want);
    }
}
