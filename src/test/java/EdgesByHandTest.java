/**
 * The boundaries that the Terms and promises 5 to 14, 29 and 30 name: what there is, what is done by hand, what is
 * undone and marked. Of each the last that is in and the first that is out; each refusal, with all that stays.
 */
public final class EdgesByHandTest {
    private static final Kit KIT = new Kit("EdgesByHandTest");
    private static final int MIN = Integer.MIN_VALUE;
    private static final int MAX = Integer.MAX_VALUE;
    private static final int[] FAR = {MIN, MIN + 1, -64, -32, -2, 6, 7, 31, 32, 33, 64, 256, MAX - 1, MAX};
    private static final String TWO = "spot s shade 0; spot d shade 9; carver a ayes skill 4; carver b noes skill 3;"
        + "act p plain feet 3 chips 8 worth 5 by a; act q hollow feet 9 chips 7 worth 7 by b; clash p q; nights 3 2; mild 4;";

    public static void main(String[] args) {
        refusedOfNothing();
        refusedWhileOneStands();
        refusedWhereOneFell();
        refusedOfNumbers();
        asked();
        whatOfActs();
        carversAndSides();
        sixInForce();
        beginTillAllAreTaken();
        doneAtItsChips();
        atMost99Chips();
        carvedOfNothing();
        oncePerNight();
        threeProps();
        lastFoot();
        meltsByKind();
        oldInTheShade();
        fallsAtZero();
        sixFallAtOnce();
        whoIsHurt();
        hurtForGood();
        sixteenUndone();
        eachUndone();
        toldAheadOfThese();
        marksEmptyAndFull();
        markHolds();
        markIsLaidAnew();
        counts();
        KIT.finish();
    }

    /** q stands in the shade and is done by b alone; a MARK, one TOLD, a SESSION, signs on the TAPE. */
    private static int stands(IceParliament x) {
        Kit.yard(x, TWO);
        Kit.session(x, "begin p s; night;");
        x.begin(1, 1);
        x.mark(2, false);
        x.carve(1, 1);
        x.tell(1, 9);
        return Kit.feed(x, "mild 11;");
    }

    /** p fell on a, who is hurt; q stands where p stood. */
    private static int fell(IceParliament x) {
        Kit.yard(x, TWO);
        x.begin(0, 0);
        x.carve(0, 0);
        x.night();
        return Kit.bit(x.begin(1, 0));
    }

    // ---- what is refused, with all that stays

    private static void refusedOfNothing() {
        Kit.Calls nothing = x -> 0;
        KIT.refused("act(0, 0)", nothing, x -> x.act(0, 0), -1);
        KIT.refused("carver(0, 0)", nothing, x -> x.carver(0, 0), -2);
        KIT.refused("begin(0, 0)", nothing, x -> Kit.bit(x.begin(0, 0)), 0);
        KIT.refused("carve(0, 0)", nothing, x -> x.carve(0, 0), -1);
        KIT.refused("prop(0)", nothing, x -> x.prop(0), -1);
        KIT.refused("torch(0)", nothing, x -> x.torch(0), -1);
        KIT.refused("tell(0, 0)", nothing, x -> Kit.bit(x.tell(0, 0)), 0);
        KIT.refused("undo()", nothing, x -> Kit.bit(x.undo()), 0);
        KIT.refused("force()", nothing, IceParliament::force, 0);
        KIT.refused("side(0)", nothing, x -> x.side(0), 0);
        KIT.refused("side(1)", nothing, x -> x.side(1), 0);
        for (int mark = -1; mark <= 4; mark++) {
            int m = mark;
            KIT.refused("mark(" + m + ", true)", nothing, x -> Kit.bit(x.mark(m, true)), 0);
        }
        KIT.refused("a spot, no act", x -> Kit.yard(x, "spot s shade 1;"), x -> Kit.bit(x.begin(0, 0)), 0);
        KIT.refused("an act, no spot", x -> Kit.yard(x, TWO.replaceAll("spot [a-z]+ shade .;", "")),
            x -> Kit.bit(x.begin(0, 0)), 0);
    }

    private static void refusedWhileOneStands() {
        Kit.Calls at = EdgesByHandTest::stands;
        KIT.refused("begun already, elsewhere", at, x -> Kit.bit(x.begin(1, 0)), 0);
        KIT.refused("begun already, there", at, x -> Kit.bit(x.begin(1, 1)), 0);
        KIT.refused("its spot is taken", at, x -> Kit.bit(x.begin(0, 1)), 0);
        KIT.refused("it is done", at, x -> x.carve(0, 1), -1);
        KIT.refused("it is done, and he has carved", at, x -> x.carve(1, 1), -1);
        KIT.refused("it does not stand", at, x -> x.carve(0, 0), -1);
        KIT.refused("prop: it does not stand", at, x -> x.prop(0), -1);
        KIT.refused("torch: it does not stand", at, x -> x.torch(0), -1);
        KIT.refused("tell: it does not stand", at, x -> Kit.bit(x.tell(0, 3)), 0);
        KIT.refused("tell below 0", at, x -> Kit.bit(x.tell(1, -1)), 0);
        KIT.refused("tell above 20", at, x -> Kit.bit(x.tell(1, 21)), 0);
        for (int mark : new int[] {0, 1, 3}) {
            KIT.refused("nothing is on " + mark, at, x -> Kit.bit(x.mark(mark, true)), 0);
        }
        KIT.refused("he has carved", x -> stands(x) + Kit.bit(x.begin(0, 0)), x -> x.carve(1, 0), -1);
        KIT.refused("three props", x -> stands(x) + x.prop(1) + x.prop(1) + x.prop(1), x -> x.prop(1), -1);
        KIT.refused("nothing can be undone behind a mark", x -> stands(x) + Kit.bit(x.mark(2, true)),
            x -> Kit.bit(x.undo()), 0);
        KIT.refused("nothing can be undone behind all", x -> stands(x) + Kit.bit(x.undo()) + Kit.bit(x.undo()),
            x -> Kit.bit(x.undo()), 0);
        KIT.refused("a sign that is left out", at, x -> x.feed(-1, 0, 0x7F), 8);
    }

    private static void refusedWhereOneFell() {
        Kit.Calls at = EdgesByHandTest::fell;
        KIT.refused("it is never begun again", at, x -> Kit.bit(x.begin(0, 1)), 0);
        KIT.refused("not where it stood either", x -> fell(x) + Kit.bit(x.undo()), x -> Kit.bit(x.begin(0, 0)), 0);
        KIT.refused("he is hurt", at, x -> x.carve(0, 1), -1);
        KIT.refused("carve: it has fallen", at, x -> x.carve(1, 0), -1);
        KIT.refused("prop: it has fallen", at, x -> x.prop(0), -1);
        KIT.refused("torch: it has fallen", at, x -> x.torch(0), -1);
        KIT.refused("tell: it has fallen", at, x -> Kit.bit(x.tell(0, 0)), 0);
        KIT.refused("falls: it has fallen", at, x -> x.falls(0), -1);
        KIT.refused("stands: it has fallen", at, x -> x.stands(0, 1), -1);
    }

    /** Each number of an ACT, a SPOT, a CARVER, a MARK, a SIDE and of what: the first ones out, and far ones. */
    private static void refusedOfNumbers() {
        for (int i = -1; i < FAR.length; i++) {
            int n = i < 0 ? -1 : FAR[i];
            refusedOfAct(n);
            int past = i < 0 ? 2 : n;
            refusedOfAct(past);
            Kit.Calls at = EdgesByHandTest::stands;
            KIT.refused("spot " + n, at, x -> Kit.bit(x.begin(0, n)), 0);
            KIT.refused("spot " + past, at, x -> Kit.bit(x.begin(0, past)), 0);
            KIT.refused("both " + n, at, x -> Kit.bit(x.begin(n, n)), 0);
            KIT.refused("carver " + n, at, x -> x.carver(n, 0), -2);
            KIT.refused("carver " + past, at, x -> x.carver(past, 0), -2);
            KIT.refused("side " + n, at, x -> x.side(n), -1);
            KIT.refused("side " + past, at, x -> x.side(past), -1);
            int mark = i < 0 ? 4 : n;
            KIT.refused("mark " + n, at, x -> Kit.bit(x.mark(n, false)), 0);
            KIT.refused("mark " + mark, at, x -> Kit.bit(x.mark(mark, false)), 0);
            KIT.refused("back to " + n, at, x -> Kit.bit(x.mark(n, true)), 0);
            KIT.refused("back to " + mark, at, x -> Kit.bit(x.mark(mark, true)), 0);
            int what = i < 0 || n == 6 || n == 7 ? 13 : n;
            KIT.refused("count " + n, at, x -> x.count(n == 6 || n == 7 ? -1 : n), -1);
            KIT.refused("count " + what, at, x -> x.count(what), -1);
            int nine = i < 0 || n == 6 || n == 7 ? 9 : n;
            KIT.refused("act what " + nine, at, x -> x.act(1, nine), -1);
            int four = i < 0 ? 4 : n;
            KIT.refused("carver what " + four, at, x -> x.carver(1, four), -2);
        }
        KIT.refused("act what -1", EdgesByHandTest::stands, x -> x.act(1, -1), -1);
        KIT.refused("carver what -1", EdgesByHandTest::stands, x -> x.carver(1, -1), -2);
    }

    private static void refusedOfAct(int n) {
        // q is not done here, and nobody has carved
        Kit.Calls at = x -> stands(x) + Kit.bit(x.undo());
        KIT.refused("act(" + n + ", 0)", at, x -> x.act(n, 0), -1);
        KIT.refused("begin(" + n + ", 0)", at, x -> Kit.bit(x.begin(n, 0)), 0);
        KIT.refused("carve(0, " + n + ")", at, x -> x.carve(0, n), -1);
        KIT.refused("carve(" + n + ", 1)", at, x -> x.carve(n, 1), -1);
        KIT.refused("prop(" + n + ")", at, x -> x.prop(n), -1);
        KIT.refused("torch(" + n + ")", at, x -> x.torch(n), -1);
        KIT.refused("tell(" + n + ", 1)", at, x -> Kit.bit(x.tell(n, 1)), 0);
    }

    /** What only asks changes nothing. */
    private static void asked() {
        Kit.Calls at = EdgesByHandTest::stands;
        KIT.asBefore("all that asks", at, x -> x.act(1, 8) + x.carver(1, 2) + x.force() + x.side(1) + x.judged(0) + x.judged(1)
            + x.judged(2) + x.falls(1) + x.clashes() + x.mend(0) + x.mend(1) + x.work(6, 0) + x.work(6, 2) + x.places(-1)
            + x.places(0) + x.thin(0, 0, 30) + x.stands(1, 8) + x.propped(30) + x.sets(0) + x.sets(2) + x.look()
            + Kit.rests(x, 3, 5, 1, 0) + Kit.rests(x, 3, 5, 1, 2) + x.decades(9999, 60, 0) + x.decades(1, 60, 2) + x.count(6));
        KIT.asBefore("all that asks, where one fell", EdgesByHandTest::fell, x -> x.work(6, 0) + x.places(-1) + x.thin(1, 1, 30)
            + x.stands(1, 8) + x.propped(30) + x.sets(0) + x.look() + x.decades(7, 60, 1) + x.judged(2) + x.falls(1));
    }

    // ---- what there is

    /** "feet now (as told if not begun)", "its SPOT (NONE: it does not STAND)", "MELTS .. (0 if it does not STAND)". */
    private static void whatOfActs() {
        IceParliament x = Kit.with(TWO);
        int[] told = {x.act(0, 0), x.act(0, 1), x.act(0, 2), x.act(0, 3), x.act(0, 4), x.act(0, 5), x.act(0, 6), x.act(0, 7), x.act(0, 8)};
        KIT.row("not begun", told, 0, 3, 0, 8, -1, 0, 0, 0, 0);
        x.night();
        KIT.due("it does not melt", x.act(0, 1), 3);
        x.begin(0, 0);
        int[] begun = {x.act(0, 1), x.act(0, 2), x.act(0, 4), x.act(0, 6), x.act(0, 7), x.act(0, 8)};
        KIT.row("begun", begun, 3, 0, 0, 0, 0, 2);
        x.carve(0, 0);
        x.prop(0);
        int[] half = {x.act(0, 1), x.act(0, 2), x.act(0, 4), x.act(0, 5), x.act(0, 6), x.act(0, 7), x.act(0, 8)};
        KIT.row("4 of 8", half, 3, 4, 0, 1, 0, 0, 1);
        x.night();
        x.carve(0, 0);
        int[] done = {x.act(0, 1), x.act(0, 2), x.act(0, 4), x.act(0, 5), x.act(0, 6), x.act(0, 7), x.act(0, 8)};
        KIT.row("8 of 8, two feet, a night of 3 and one prop", done, 2, 8, 0, 1, 1, 0, 2);
        x.night();
        int[] fallen = {x.act(0, 1), x.act(0, 4), x.act(0, 6), x.act(0, 7), x.act(0, 8)};
        KIT.row("fallen", fallen, 0, -1, 0, 1, 0);
        IceParliament y = Kit.with("spot s shade 0; carver m ayes skill 1; act p plain feet 1 chips 1 worth 1 by m; nights 9;");
        y.begin(0, 0);
        KIT.due("it melts by 9, though it has one foot", y.act(0, 8), 9);
        KIT.due("spot 0 is not none", y.act(0, 4), 0);
    }

    private static void carversAndSides() {
        IceParliament x = Kit.with("carver a noes skill 0; carver b ayes skill 9; spot s shade 9; spot d shade 9; spot e shade 9;"
            + "act p plain feet 1 chips 9 worth 3 by b; act q plain feet 1 chips 9 worth 40 by a; act r plain feet 1 chips 9 worth 50 by b;"
            + "melts 0; carves 9;");
        int[] all = {x.carver(0, 0), x.carver(0, 1), x.carver(0, 2), x.carver(0, 3), x.carver(1, 0), x.carver(1, 1)};
        KIT.row("carvers", all, 1, 0, -1, 0, 0, 9);
        x.begin(0, 0);
        x.begin(1, 1);
        x.begin(2, 2);
        x.carve(0, 0);
        KIT.due("an act of 0 is not none", x.carver(0, 2), 0);
        int[] one = {x.side(0), x.side(1)};
        KIT.row("the mover's side, not the carver's", one, 3, 0);
        x.carve(1, 1);
        int[] two = {x.side(0), x.side(1)};
        KIT.row("one of each", two, 3, 40);
        x.night();
        x.carve(0, 2);
        int[] three = {x.side(0), x.side(1), x.count(8), x.force()};
        KIT.row("two of one, together", three, 53, 40, 93, 7);
        x.torch(0);
        int[] less = {x.side(0), x.side(1), x.count(8), x.force()};
        KIT.row("one fell", less, 50, 40, 90, 6);
    }

    private static String six(String kind, int feet, int chips, int worth) {
        StringBuilder yard = new StringBuilder();
        for (int i = 0; i < 6; i++) {
            yard.append("spot s").append((char) ('a' + i)).append(" shade 0; carver c").append((char) ('a' + i)).append(" ayes skill 9;");
        }
        for (int i = 0; i < 6; i++) {
            yard.append("act p").append((char) ('a' + i)).append(' ').append(kind).append(" feet ").append(feet).append(" chips ")
                .append(chips).append(" worth ").append(worth).append(" by c").append((char) ('a' + i)).append(";");
        }
        return yard.toString();
    }

    /** "FORCE, as bits": none, one more each, all six. */
    private static void sixInForce() {
        IceParliament x = Kit.with(six("plain", 9, 9, 99));
        for (int i = 0; i < 6; i++) {
            KIT.due(i + " in force", x.force(), (1 << i) - 1);
            KIT.due(i + " stand", x.count(6), (1 << i) - 1);
            x.begin(i, 5 - i);
            x.carve(5 - i, i);
            KIT.due("where", x.act(i, 4), 5 - i);
        }
        int[] all = {x.force(), x.count(6), x.count(7), x.count(8), x.side(0), x.side(1)};
        KIT.row("all six", all, 63, 63, 0, 594, 594, 0);
    }

    // ---- by hand

    private static void beginTillAllAreTaken() {
        IceParliament x = Kit.with(six("plain", 1, 1, 1) .replace("spot sf shade 0;", ""));
        for (int i = 0; i < 5; i++) {
            for (int taken = 0; taken < i; taken++) {
                KIT.due("spot " + taken + " is taken", x.begin(i, taken), false);
            }
            KIT.due("spot " + i, x.begin(i, i), true);
        }
        for (int spot = 0; spot < 6; spot++) {
            KIT.due("all are taken, spot " + spot, x.begin(5, spot), false);
        }
        x.torch(3);
        KIT.due("one fell: its spot is free", x.begin(5, 3), true);
        KIT.due("all acts are begun", x.begin(3, 3), false);
        KIT.due("five stand", x.count(6), 55);
        x.night();
        for (int act = 0; act < 6; act++) {
            for (int spot = 0; spot < 5; spot++) {
                KIT.due("all have fallen: none is begun again", x.begin(act, spot), false);
            }
        }
        KIT.due("six deeds and a torch and a night", x.count(11), 8);
    }

    /** "DONE by as many chips as told (a hollow one by half of them, cut, 1 at least)". */
    private static void doneAtItsChips() {
        int[][] told = {{1, 1}, {2, 1}, {3, 1}, {4, 2}, {5, 2}, {6, 3}, {98, 49}, {99, 49}};
        String[] kinds = {"plain", "hollow", "thin", "old"};
        for (int[] chips : told) {
            for (String kind : kinds) {
                int enough = kind.equals("hollow") ? chips[1] : chips[0];
                IceParliament x = Kit.with("spot s shade 9; carver a ayes skill 1; carver b ayes skill " + (enough > 1 ? 9 : 0)
                    + "; act p " + kind + " feet 9 chips " + chips[0] + " worth 1 by a; melts 0; carves (able = 9) * " + (enough - 1)
                    + " + (able = 1);");
                KIT.due("done by", x.act(0, 3), enough);
                x.begin(0, 0);
                x.carve(1, 0);
                KIT.due(kind + " of " + chips[0] + ": one chip less", x.act(0, 2), enough - 1);
                KIT.due("is not in force", x.act(0, 6), 0);
                KIT.due("may be carved", x.carve(0, 0), enough);
                KIT.due("is in force", x.act(0, 6), 1);
                x.night();
                KIT.due("may not be carved", x.carve(0, 0), -1);
                KIT.due("not by another one", x.carve(1, 0), -1);
            }
        }
    }

    /** "its chips are more by the E of carves (0 to 99; 99 at most together)". */
    private static void atMost99Chips() {
        int[][] rows = {{0, 98, 98}, {0, 99, 99}, {0, 100, 99}, {1, 97, 98}, {1, 98, 99}, {1, 99, 99}, {98, 0, 98}, {98, 1, 99},
            {98, 2, 99}, {98, 99, 99}, {50, 49, 99}, {50, 50, 99}, {50, 48, 98}};
        for (int[] row : rows) {
            IceParliament x = Kit.with("spot s shade 9; carver a ayes skill 1; carver b ayes skill 2; act p plain feet 9 chips 99 worth 1 by a;"
                + "melts 0; carves (able = 1) * " + row[0] + " + (able = 2) * " + row[1] + ";");
            x.begin(0, 0);
            KIT.due("first " + row[0], x.carve(0, 0), row[0]);
            KIT.due("then " + row[1], x.carve(1, 0), row[2]);
            KIT.due("in force", x.force(), row[2] == 99 ? 1 : 0);
        }
        IceParliament x = Kit.with("spot s shade 9; carver a ayes skill 1; act p hollow feet 9 chips 2 worth 1 by a; carves 9999;");
        x.begin(0, 0);
        KIT.due("more than it is done by", x.carve(0, 0), 99);
        KIT.due("chips", x.act(0, 2), 99);
    }

    /** A CARVE that brings no chip is one all the same. */
    private static void carvedOfNothing() {
        IceParliament x = Kit.with("spot s shade 9; carver a ayes skill 0; act p plain feet 9 chips 1 worth 1 by a;");
        x.begin(0, 0);
        KIT.due("no chip", x.carve(0, 0), 0);
        KIT.due("he has carved", x.carver(0, 2), 0);
        KIT.due("not again", x.carve(0, 0), -1);
        KIT.due("it can be undone", x.count(11), 2);
        x.undo();
        KIT.due("he has not", x.carver(0, 2), -1);
    }

    /** "has not carved since the last NIGHT". */
    private static void oncePerNight() {
        IceParliament x = Kit.with("spot s shade 9; spot d shade 9; carver a ayes skill 1; carver b ayes skill 2;"
            + "act p plain feet 9 chips 9 worth 1 by a; act q plain feet 9 chips 9 worth 1 by a;");
        x.begin(0, 0);
        x.begin(1, 1);
        for (int night = 0; night < 3; night++) {
            KIT.due("a", x.carve(0, 0), 1 + 3 * night);
            KIT.due("not again", x.carve(0, 0), -1);
            KIT.due("not the other one", x.carve(0, 1), -1);
            KIT.due("b, the same one", x.carve(1, 0), 3 + 3 * night);
            x.night();
            int[] none = {x.carver(0, 2), x.carver(1, 2)};
            KIT.row("since the night", none, -1, -1);
        }
        KIT.due("it is done by 9", x.force(), 1);
        KIT.due("the other one", x.carve(0, 1), 1);
        for (int i = 0; i < 9; i++) {
            x.torch(1);
        }
        KIT.due("he has carved it, though it fell", x.carver(0, 2), 1);
        KIT.due("b may not carve what fell", x.carve(1, 1), -1);
        KIT.due("nor what is done", x.carve(1, 0), -1);
        KIT.due("he has not carved", x.carver(1, 2), -1);
    }

    /** "three at most each", "less its props (0 at least)". */
    private static void threeProps() {
        String[] kinds = {"plain", "hollow", "thin", "old"};
        for (int law = 0; law <= 9; law++) {
            int[] bare = {law, law + 1, law / 2, law};
            for (int kind = 0; kind < 4; kind++) {
                IceParliament x = Kit.with("spot s shade 4; carver a ayes skill 1; act p " + kinds[kind]
                    + " feet 20 chips 1 worth 1 by a; melts " + law + ";");
                KIT.due("not begun", x.prop(0), -1);
                x.begin(0, 0);
                for (int props = 0; props <= 3; props++) {
                    KIT.due(kinds[kind] + " by " + law + " less " + props, x.act(0, 8), Math.max(0, bare[kind] - props));
                    KIT.due("props", x.act(0, 5), props);
                    KIT.due("one more", x.prop(0), props < 3 ? props + 1 : -1);
                }
                x.night();
                KIT.due("feet", x.act(0, 1), 20 - Math.max(0, bare[kind] - 3));
                KIT.due("they stay over the night", x.act(0, 5), 3);
                KIT.due("a fourth the next night", x.prop(0), -1);
            }
        }
        IceParliament x = Kit.with(six("plain", 9, 9, 9));
        for (int i = 0; i < 6; i++) {
            x.begin(i, i);
            for (int props = 1; props <= 3; props++) {
                KIT.due("each may have three", x.prop(i), props);
            }
        }
    }

    /** "a foot less; it has fallen if that was its last". */
    private static void lastFoot() {
        for (int feet : new int[] {1, 2, 19, 20}) {
            IceParliament x = Kit.with("spot s shade 9; carver a ayes skill 9; act p plain feet " + feet + " chips 9 worth 1 by a;");
            KIT.due("not begun", x.torch(0), -1);
            x.begin(0, 0);
            x.carve(0, 0);
            for (int left = feet - 1; left >= 0; left--) {
                int[] ahead = {x.count(6), x.count(7), x.force()};
                KIT.row("it stands with " + (left + 1), ahead, 1, 0, 1);
                KIT.due("a foot less", x.torch(0), left);
            }
            int[] behind = {x.count(6), x.count(7), x.force(), x.act(0, 4), x.carver(0, 3)};
            KIT.row("it has fallen, on nobody", behind, 0, 1, 0, -1, 0);
            KIT.due("no foot is left", x.torch(0), -1);
            KIT.due("the night fells nothing", x.night(), 0);
            KIT.due("nobody is hurt by it", x.carver(0, 3), 0);
        }
    }

    /** "by the E of melts (0 to 9), a hollow one by one more, a thin one by half of that, cut". */
    private static void meltsByKind() {
        int[] law = {-9999, -1, 0, 1, 2, 3, 8, 9, 10, 9999};
        String[] kinds = {"plain", "hollow", "thin", "old"};
        for (int n : law) {
            int cut = Math.max(0, Math.min(9, n));
            int[] want = {cut, cut + 1, cut / 2, cut};
            for (int kind = 0; kind < 4; kind++) {
                IceParliament x = Kit.with("spot s shade 4; carver a ayes skill 1; act p " + kinds[kind]
                    + " feet 20 chips 1 worth 1 by a; melts " + (n < 0 ? "0 - " + -n : "" + n) + ";");
                x.begin(0, 0);
                KIT.due(kinds[kind] + " by " + n, x.act(0, 8), want[kind]);
                x.night();
                KIT.due("feet of " + kinds[kind] + " by " + n, x.act(0, 1), 20 - want[kind]);
            }
        }
    }

    /** "an old one not at all at a shade of 5 and above". */
    private static void oldInTheShade() {
        for (int shade = 0; shade <= 9; shade++) {
            IceParliament x = Kit.with("spot s shade " + shade + "; carver a ayes skill 1; act p old feet 20 chips 1 worth 1 by a;"
                + "act q plain feet 20 chips 1 worth 1 by a; melts 9;");
            x.begin(0, 0);
            KIT.due("old at " + shade, x.act(0, 8), shade < 5 ? 9 : 0);
            KIT.due("old at " + shade + " falls", x.falls(0), shade < 5 ? 3 : -1);
            x.undo();
            x.begin(1, 0);
            KIT.due("plain at " + shade, x.act(1, 8), 9);
        }
    }

    /** "so many feet less (0 at least)", "it has fallen (0 feet)". */
    private static void fallsAtZero() {
        for (int melts = 0; melts <= 9; melts++) {
            for (int feet = 1; feet <= 11; feet++) {
                IceParliament x = Kit.with("spot s shade 0; carver a ayes skill 1; act p plain feet " + feet
                    + " chips 1 worth 1 by a; melts " + melts + ";");
                x.begin(0, 0);
                x.carve(0, 0);
                KIT.due(feet + " less " + melts, x.night(), melts >= feet ? 1 : 0);
                int[] row = {x.act(0, 1), x.act(0, 7), x.count(6), x.count(7), x.force(), x.carver(0, 3)};
                int up = melts < feet ? 1 : 0;
                KIT.row(feet + " less " + melts, row, Math.max(0, feet - melts), 1 - up, up, 1 - up, up, 1 - up);
            }
        }
    }

    /** "how many have fallen by it": none, and all six, each on its mover. */
    private static void sixFallAtOnce() {
        IceParliament x = Kit.with(six("plain", 4, 99, 1));
        for (int i = 0; i < 6; i++) {
            x.begin(i, i);
        }
        KIT.due("none", x.night(), 0);
        for (int i = 0; i < 6; i++) {
            x.carve(i, i);
        }
        KIT.due("all", x.night(), 6);
        int hurt = 0;
        for (int i = 0; i < 6; i++) {
            hurt += x.carver(i, 3);
        }
        int[] row = {hurt, x.count(6), x.count(7), x.night()};
        KIT.row("all are hurt, once", row, 6, 0, 63, 0);
    }

    /** "its mover, if he carved it since the last NIGHT, is hurt". */
    private static void whoIsHurt() {
        String yard = "spot s shade 0; spot d shade 9; carver a ayes skill 1; carver b noes skill 1;"
            + "act p plain feet 3 chips 99 worth 1 by a; act q plain feet 3 chips 99 worth 1 by a;";
        int[][] rows = {{0, 0, 1}, {1, 0, 0}, {0, 1, 0}, {1, 1, 0}};
        for (int[] row : rows) {
            IceParliament x = Kit.with(yard);
            x.begin(0, 0);
            x.begin(1, 1);
            x.carve(row[0], row[1]);
            KIT.due("p falls", x.night(), 1);
            KIT.due("carver " + row[0] + " carved act " + row[1] + ": a", x.carver(0, 3), row[2]);
            KIT.due("never b", x.carver(1, 3), 0);
        }
        IceParliament two = Kit.with(yard.replace("shade 9", "shade 0"));
        two.begin(0, 0);
        two.begin(1, 1);
        two.carve(0, 1);
        two.carve(1, 0);
        KIT.due("both of a's fall", two.night(), 2);
        int[] hurt = {two.carver(0, 3), two.carver(1, 3)};
        KIT.row("one of them on him", hurt, 1, 0);
        IceParliament none = Kit.with(yard);
        none.begin(0, 0);
        KIT.due("p falls", none.night(), 1);
        KIT.due("who carved nothing is not hurt", none.carver(0, 3) + none.carver(1, 3), 0);
        IceParliament both = Kit.with(yard.replace("shade 9", "shade 0").replace("act q plain feet 3 chips 99 worth 1 by a",
            "act q plain feet 3 chips 99 worth 1 by b"));
        both.begin(0, 0);
        both.begin(1, 1);
        both.carve(0, 0);
        both.carve(1, 1);
        KIT.due("each on its mover", both.night(), 2);
        KIT.due("two are hurt", both.carver(0, 3) + both.carver(1, 3), 2);
        IceParliament late = Kit.with(yard.replace("feet 3", "feet 4"));
        late.begin(0, 0);
        late.carve(0, 0);
        late.night();
        late.carve(1, 0);
        KIT.due("p falls", late.night(), 1);
        KIT.due("a carved it ahead of the last night", late.carver(0, 3), 0);
    }

    private static void hurtForGood() {
        IceParliament x = Kit.with(TWO);
        x.mark(1, false);
        x.begin(0, 0);
        x.carve(0, 0);
        x.night();
        x.begin(1, 0);
        for (int night = 0; night < 9; night++) {
            KIT.due("night " + night, x.carver(0, 3), 1);
            KIT.due("he can't carve", x.carve(0, 1), -1);
            x.night();
        }
        x.mark(0, false);
        x.mark(1, true);
        KIT.due("not hurt ahead of it", x.carver(0, 3), 0);
        x.mark(0, true);
        KIT.due("hurt behind it", x.carver(0, 3), 1);
        Kit.yard(x, TWO);
        KIT.due("not in a new yard", x.carver(0, 3), 0);
    }

    // ---- what is undone, and what is marked

    /** "UNDO: all of these, the last 16, one by one". */
    private static void sixteenUndone() {
        for (int deeds : new int[] {0, 1, 15, 16, 17, 31, 32, 33, 48, 49}) {
            IceParliament x = Kit.with(TWO);
            for (int i = 0; i < deeds; i++) {
                x.night();
                KIT.due("what can be undone of " + (i + 1), x.count(11), Math.min(16, i + 1));
            }
            int can = Math.min(16, deeds);
            for (int i = 1; i <= can; i++) {
                KIT.due("undo " + i + " of " + deeds, x.undo(), true);
                int[] row = {x.count(4), x.count(11)};
                KIT.row("undo " + i + " of " + deeds, row, deeds - i, can - i);
            }
            KIT.due("no more of " + deeds, x.undo(), false);
            KIT.due("the night stays", x.count(4), deeds - can);
            x.night();
            KIT.due("and on", x.count(11), 1);
            KIT.due("and back", x.undo(), true);
            KIT.due("the night again", x.count(4), deeds - can);
        }
        IceParliament x = Kit.with(TWO);
        x.begin(1, 1);
        for (int i = 0; i < 16; i++) {
            x.night();
        }
        for (int i = 0; i < 16; i++) {
            x.undo();
        }
        KIT.due("the seventeenth is not undone", x.undo(), false);
        KIT.due("it stands", x.count(6), 2);
    }

    /** BEGIN, CARVE, PROP, TORCH, NIGHT: each is undone to what was, whatever it did. */
    private static void eachUndone() {
        Kit.Calls stands = EdgesByHandTest::stands;
        KIT.asBefore("a begin", stands, x -> Kit.bit(x.begin(0, 0)) + Kit.bit(x.undo()));
        KIT.asBefore("a prop", stands, x -> x.prop(1) + Kit.bit(x.undo()));
        KIT.asBefore("a torch", stands, x -> x.torch(1) + Kit.bit(x.undo()));
        KIT.asBefore("a night", stands, x -> x.night() + Kit.bit(x.undo()));
        KIT.asBefore("a begin and a carving", stands,
            x -> Kit.bit(x.begin(0, 0)) + x.carve(0, 0) + Kit.bit(x.undo()) + Kit.bit(x.undo()));
        KIT.asBefore("the last foot", x -> stands(x) + Kit.bit(x.begin(0, 0)) + x.torch(0) + x.torch(0),
            x -> x.torch(0) + Kit.bit(x.undo()));
        KIT.asBefore("a night by which one falls on its mover", x -> stands(x) + Kit.bit(x.begin(0, 0)) + x.carve(0, 0),
            x -> x.night() + Kit.bit(x.undo()));
        KIT.asBefore("five deeds", stands, x -> Kit.bit(x.begin(0, 0)) + x.carve(0, 0) + x.prop(1) + x.torch(1) + x.night()
            + Kit.bit(x.undo()) + Kit.bit(x.undo()) + Kit.bit(x.undo()) + Kit.bit(x.undo()) + Kit.bit(x.undo()));
        IceParliament full = Kit.with(TWO);
        full.begin(0, 1);
        for (int i = 0; i < 15; i++) {
            full.night();
        }
        KIT.due("full", full.count(11), 16);
        KIT.due("one more", full.torch(0), 2);
        KIT.due("as full as it was", full.count(11), 16);
        full.undo();
        int[] row = {full.count(11), full.count(4), full.act(0, 1)};
        KIT.row("and back", row, 15, 15, 3);
        for (int i = 0; i < 15; i++) {
            full.undo();
        }
        KIT.due("the eldest is gone: it stands", full.count(4) + full.count(6) + Kit.bit(full.undo()), 1);
    }

    /** "(what is TOLD is then as it was ahead of these)". */
    private static void toldAheadOfThese() {
        KIT.refused("telling can't be undone alone", x -> Kit.yard(x, TWO) + Kit.bit(x.begin(1, 1)), x -> x.count(11), 1);
        IceParliament x = Kit.with(TWO);
        x.begin(1, 1);
        x.carve(1, 1);
        // q: 9 feet, hollow in the shade: 8 behind the night, 7 if b breathes
        x.tell(1, 7);
        x.prop(1);
        // 9 now, 8 if b breathes
        x.tell(1, 9);
        KIT.due("b does not breathe", x.sets(2), 0);
        x.torch(1);
        KIT.due("8 or 7: by what is told none", x.sets(0), 0);
        x.tell(1, 7);
        KIT.due("b breathes", x.sets(1), 2);
        x.undo();
        KIT.due("ahead of the torch 9 was told", x.sets(0) + 8 * x.sets(2), 1);
        x.undo();
        KIT.due("ahead of the prop 7 was told", x.sets(1), 2);
        x.undo();
        KIT.due("ahead of the carving nothing was", x.count(10), 0);
        x.tell(1, 0);
        x.undo();
        KIT.due("ahead of the begin nothing was", x.count(10), 0);
    }

    /** "MARKS 0 to 3": none laid, all four laid, each of its own. */
    private static void marksEmptyAndFull() {
        IceParliament x = Kit.with(TWO);
        x.night();
        for (int mark = 0; mark < 4; mark++) {
            KIT.due("nothing is on " + mark, x.mark(mark, true), false);
        }
        KIT.due("what can be undone stays", x.count(11), 1);
        for (int mark = 0; mark < 4; mark++) {
            KIT.due("laid " + mark, x.mark(mark, false), true);
            for (int other = mark + 1; other < 4; other++) {
                KIT.due("nothing is on " + other + " yet", x.mark(other, true), false);
            }
            x.night();
        }
        KIT.due("laying takes nothing of what can be undone", x.count(11), 5);
        for (int mark : new int[] {3, 0, 2, 2, 1, 3}) {
            KIT.due("back to " + mark, x.mark(mark, true), true);
            int[] row = {x.count(4), x.count(11), Kit.bit(x.undo())};
            KIT.row("at " + mark, row, mark + 1, 0, 0);
            x.night();
            KIT.due("and on, which can be undone", x.count(11), 1);
        }
    }

    /** "hold the night, ACTS, who carved, is hurt, what is TOLD (all that UNDO brings back)". */
    private static void markHolds() {
        Kit.Calls there = x -> {
            Kit.yard(x, TWO);
            Kit.session(x, "night;");
            x.begin(0, 0);
            x.carve(0, 0);
            x.night();
            x.begin(1, 0);
            x.carve(1, 1);
            x.prop(1);
            x.torch(1);
            x.tell(1, 5);
            x.mark(1, false);
            return Kit.bit(x.mark(1, true));
        };
        KIT.asBefore("nights, torches and all", there, x -> x.night() + x.night() + x.torch(1) + x.prop(1) + x.night()
            + Kit.bit(x.tell(1, 2)) + Kit.bit(x.mark(1, true)));
        KIT.asBefore("told anew", there, x -> Kit.bit(x.tell(1, 9)) + Kit.bit(x.mark(1, true)));
        KIT.asBefore("till all has fallen", there, x -> x.night() + x.night() + x.night() + x.night() + x.night()
            + Kit.bit(x.mark(1, true)));
        IceParliament x = new IceParliament();
        there.on(x);
        int[] row = {x.count(4), x.count(6), x.count(7), x.count(10), x.carver(0, 3), x.carver(1, 2), x.act(1, 1), x.act(1, 2), x.act(1, 5)};
        KIT.row("what it holds", row, 1, 2, 1, 1, 1, 1, 8, 3, 1);
        Kit.session(x, "night; night;");
        Kit.feed(x, "abc");
        x.mark(1, true);
        int[] not = {x.count(9), x.count(12)};
        KIT.row("neither the session nor the tape", not, 2, 3);
    }

    private static void markIsLaidAnew() {
        IceParliament x = Kit.with(TWO);
        x.mark(2, false);
        x.night();
        x.mark(2, false);
        x.undo();
        KIT.due("undone to the first night", x.count(4), 0);
        KIT.due("undo leaves the mark", x.mark(2, true), true);
        KIT.due("the later one", x.count(4), 1);
        x.night();
        KIT.due("a fault of a yard leaves it", Kit.yard(x, "!"), 1);
        KIT.due("still there", x.mark(2, true), true);
        KIT.due("a session leaves it", Kit.session(x, "night;"), 0);
        KIT.due("still there", x.mark(2, true), true);
        KIT.due("a yard takes it", Kit.yard(x, TWO), 0);
        KIT.due("gone", x.mark(2, true), false);
    }

    private static void counts() {
        IceParliament x = Kit.with(six("old", 3, 9, 2) + "clash pa pb; clash pf pe; nights 0 7;");
        int[] told = new int[13];
        for (int what = 0; what < 13; what++) {
            told[what] = x.count(what);
        }
        KIT.row("told", told, 6, 6, 6, 2, 0, 0, 0, 0, 0, 0, 0, 0, 0);
        for (int i = 0; i < 6; i++) {
            x.begin(i, i);
            x.tell(i, 20);
            KIT.due("told of " + (i + 1), x.count(10), i + 1);
            x.tell(i, 0);
            KIT.due("told again of " + (i + 1), x.count(10), i + 1);
        }
        x.carve(0, 5);
        KIT.due("worth", x.count(8), 2);
        x.night();
        KIT.due("told behind the night", x.count(10), 0);
        x.night();
        int[] fell = {x.count(4), x.count(5), x.count(6), x.count(7), x.count(8), x.count(11)};
        KIT.row("all fell", fell, 2, 0, 0, 63, 0, 9);
    }
}
