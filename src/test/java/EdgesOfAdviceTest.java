/**
 * The boundaries that the Terms and promises 15 to 28 name: told sessions, falls, clashes, plans, odds, breath,
 * torches of two sides, decades. Of each the last that is in and the first that is out; each refusal, with all that stays.
 */
public final class EdgesOfAdviceTest {
    private static final Kit KIT = new Kit("EdgesOfAdviceTest");
    private static final int MIN = Integer.MIN_VALUE;
    private static final int MAX = Integer.MAX_VALUE;
    private static final String CREW = "carver a ayes skill 4; carver b noes skill 9;";
    private static final String YARD = "spot s shade 0; spot d shade 9;" + CREW
        + "act p plain feet 3 chips 8 worth 5 by a; act q plain feet 9 chips 9 worth 7 by b;";

    public static void main(String[] args) {
        outOfRange();
        judgedLines();
        judgedNights();
        judgedFromTheBegin();
        fallsWithin40();
        clashesOfAll();
        leastToMend();
        workNights();
        workRows();
        workOfFour();
        workOfNone();
        workOfWhatStays();
        placesOfAll();
        placesTillTheFortieth();
        placesFromNowOn();
        thinTo40();
        thinNights();
        chances();
        chancesOfMildNights();
        proppedNights();
        proppedFirst();
        tellable();
        setsOfAll();
        setsOfTold();
        lookWhereItParts();
        restsOfAll();
        decadesDrawn();
        decadesOfNothing();
        decadesFallenAndHurt();
        KIT.finish();
    }

    /** p and q stand, q is in force; a MARK, one TOLD, a SESSION, signs on the TAPE. */
    private static int busy(IceParliament x) {
        Kit.yard(x, YARD + "mild 5;");
        Kit.session(x, "begin p s; night;");
        x.begin(0, 0);
        x.begin(1, 1);
        x.mark(1, false);
        x.carve(1, 1);
        x.tell(1, 9);
        return Kit.feed(x, "mild");
    }

    /** Every number that is out: what it answers, and that all stays. */
    private static void outOfRange() {
        Kit.Calls at = EdgesOfAdviceTest::busy;
        for (int n : new int[] {-1, 3, 4, 31, MIN, MAX}) {
            KIT.refused("judged(" + n + ")", at, x -> x.judged(n), -2);
            KIT.refused("sets(" + n + ")", at, x -> x.sets(n), -1);
            KIT.refused("decades what " + n, at, x -> x.decades(1, 1, n), -1);
            KIT.refused("work what " + n, at, x -> x.work(1, n), -2);
        }
        for (int n : new int[] {-2, -1, 2, 3, 6, 31, 32, 33, MIN, MAX}) {
            KIT.refused("mend(" + n + ")", at, x -> x.mend(n), -1);
            KIT.refused("falls(" + n + ")", at, x -> x.falls(n), -1);
            KIT.refused("thin of act " + n, at, x -> x.thin(n, 0, 1), -1);
            KIT.refused("thin at spot " + n, at, x -> x.thin(0, n, 1), -1);
            KIT.refused("stands of act " + n, at, x -> x.stands(n, 1), -1);
            KIT.refused("tell of act " + n, at, x -> Kit.bit(x.tell(n, 1)), 0);
            KIT.refused("places of act " + n, at, x -> n == -1 ? -2 : x.places(n), -2);
        }
        for (int n : new int[] {0, -1, 61, 100, MIN, MAX}) {
            KIT.refused("decades of nights " + n, at, x -> x.decades(1, n, 0), -1);
            KIT.refused("work of nights " + (n == 61 ? 7 : n), at, x -> x.work(n == 61 ? 7 : n, 0), -2);
            KIT.refused("thin of nights " + (n == 61 ? 31 : n), at, x -> x.thin(1, 1, n == 61 ? 31 : n), -1);
            KIT.refused("stands of nights " + (n == 61 ? 9 : n), at, x -> x.stands(1, n == 61 ? 9 : n), -1);
            KIT.refused("propped of nights " + (n == 61 ? 31 : n), at, x -> x.propped(n == 61 ? 31 : n), -1);
        }
        for (int n : new int[] {-1, 10000, MIN, MAX}) {
            KIT.refused("decades by a seed of " + n, at, x -> x.decades(n, 1, 0), -1);
        }
        for (int n : new int[] {-1, 21, MIN, MAX}) {
            KIT.refused("tell of feet " + n, at, x -> Kit.bit(x.tell(0, n)), 0);
        }
        for (int n : new int[] {-1, 10, MIN, MAX}) {
            KIT.refused("rests hold " + n, at, x -> Kit.rests(x, n, 0, 0, -1), Kit.THROWN);
            KIT.refused("rests burn " + n, at, x -> Kit.rests(x, 0, n, 0, -1), Kit.THROWN);
            KIT.refused("rests loses " + n, at, x -> Kit.rests(x, 0, 0, n, -1), Kit.THROWN);
        }
        for (int n : new int[] {-2, 4, MIN, MAX}) {
            KIT.refused("rests what " + n, at, x -> Kit.rests(x, 0, 0, 0, n), Kit.THROWN);
        }
        IceParliament x = new IceParliament();
        int[] nothing = {x.judged(0), x.judged(1), x.judged(2), x.falls(0), x.clashes(), x.mend(0), x.mend(1), x.work(1, 0), x.work(6, 0),
            x.work(1, 1), x.places(-1), x.places(0), x.thin(0, 0, 1), x.stands(0, 1), x.propped(1), x.sets(0), x.sets(1), x.sets(2),
            x.look(), x.decades(0, 1, 0), x.decades(9999, 60, 1), x.decades(9999, 60, 2)};
        KIT.row("of a new object", nothing, -1, -1, 0, -1, 0, 0, 0, 0, 0, -2, 0, -2, -1, -1, -1, 1, 0, 0, -1, 0, 0, 0);
    }

    // ---- JUDGED

    private static int[] judged(IceParliament x, String session) {
        KIT.due("no fault in " + session, Kit.session(x, session), 0);
        return new int[] {x.judged(0), x.judged(1), x.judged(2)};
    }

    /** "the first line (from 0) that can't be (night always can; lines that can't be are left out)". */
    private static void judgedLines() {
        IceParliament x = Kit.with(YARD);
        KIT.row("no line", judged(x, ""), -1, -1, 0);
        KIT.row("begin", judged(x, "begin p s;"), -1, -1, 0);
        KIT.row("night", judged(x, "night;"), -1, 0, 0);
        for (String line : new String[] {"carve a p;", "prop p;", "torch p;"}) {
            KIT.row(line + " at once", judged(x, line), 0, -1, 0);
            KIT.row(line + " at last", judged(x, "night;".repeat(39) + line), 39, 0, 0);
            KIT.row(line + " twice", judged(x, line + "night;" + line), 0, 1, 0);
            KIT.row(line + " where it stands", judged(x, "begin p d;" + line), -1, -1, 0);
        }
        KIT.row("begun already", judged(x, "begin p s; begin p d;"), 1, -1, 0);
        KIT.row("the spot is taken", judged(x, "begin p s; begin q s;"), 1, -1, 0);
        KIT.row("left out: b has not carved by it", judged(x, "carve b q; begin q d; carve b q;"), 0, -1, 7);
        KIT.row("left out: q stands at d all the same", judged(x, "begin p s; begin q s; begin q d; carve b q; night;"), 1, -1, 7);
        KIT.row("he has carved", judged(x, "begin p d; begin q s; carve a p; carve a q;"), 3, -1, 0);
        KIT.row("not so behind a night", judged(x, "begin p d; begin q s; carve a p; night; carve a q;"), -1, 3, 0);
        KIT.row("it is done", judged(x, "begin q d; carve b q; carve a q;"), 2, -1, 7);
        KIT.row("three props", judged(x, "begin q d; prop q; prop q; prop q;"), -1, -1, 0);
        KIT.row("a fourth", judged(x, "begin q d; prop q; prop q; prop q; prop q;"), 4, -1, 0);
        KIT.row("three torches", judged(x, "begin p d; torch p; torch p; torch p;"), -1, -1, 0);
        KIT.row("a fourth", judged(x, "begin p d; torch p; torch p; torch p; torch p;"), 4, -1, 0);
        KIT.row("what fell is never begun again", judged(x, "begin p s; night; begin p s;"), 2, 1, 0);
        KIT.row("its spot is free", judged(x, "begin p s; night; begin q s; carve b q;"), -1, 1, 7);
        KIT.row("it fell on a", judged(x, "begin p s; carve a p; night; begin q d; carve a q;"), 4, 2, 0);
        KIT.row("it fell beside a", judged(x, "begin p s; night; begin q d; carve a q;"), -1, 1, 0);
    }

    /** "the first night's line behind which none is in FORCE; the worth of all that is in FORCE at last". */
    private static void judgedNights() {
        IceParliament x = Kit.with(YARD);
        String force = "begin q d; carve b q;";
        KIT.row("no night", judged(x, force), -1, -1, 7);
        KIT.row("in force behind each", judged(x, force + "night;".repeat(38)), -1, -1, 7);
        KIT.row("the first line", judged(x, "night;" + force + "night;"), -1, 0, 7);
        KIT.row("the second night", judged(x, force + "night;" + "torch q;".repeat(9) + "night;"), -1, 12, 0);
        KIT.row("the last line", judged(x, force + "night;".repeat(28) + "torch q;".repeat(9) + "night;"), -1, 39, 0);
        KIT.row("fallen without a night", judged(x, force + "night;" + "torch q;".repeat(9)), -1, -1, 0);
        KIT.row("by the night itself", judged(x, "begin p s; carve b p; night; night;"), -1, 2, 0);
        KIT.row("the worth of two", judged(x, force + "begin p s; night; night; prop p;"), 5, -1, 7);
        KIT.row("the worth of two", judged(x, "begin p d; carve b p; night; begin q s; carve b q; night; night;"), -1, -1, 12);
        KIT.row("of one that is left", judged(x, "begin p d; carve b p; night; begin q s; carve b q; night; night; night;"), -1, -1, 5);
    }

    /** "the SESSION from the begin", whatever is done by hand, and never mild. */
    private static void judgedFromTheBegin() {
        IceParliament x = Kit.with(YARD + "nights 2 9; mild 10;");
        String session = "begin p s; carve a p; night; carve a p; prop p; night; begin q d; carve a q;";
        KIT.row("p has one foot, then falls on a", judged(x, session), 7, 2, 0);
        x.begin(1, 1);
        x.carve(1, 1);
        x.begin(0, 0);
        x.carve(0, 0);
        x.night();
        x.night();
        x.night();
        KIT.due("a was not hurt by hand", x.carver(0, 3), 0);
        int[] again = {x.judged(0), x.judged(1), x.judged(2)};
        KIT.row("the same", again, 7, 2, 0);
        x.undo();
        x.mark(0, false);
        x.mark(0, true);
        int[] third = {x.judged(0), x.judged(1), x.judged(2)};
        KIT.row("the same", third, 7, 2, 0);
        KIT.due("and it can be undone as it was", x.count(11) + x.count(4), 2);
    }

    // ---- FALLS

    /** "1 to 40". */
    private static void fallsWithin40() {
        for (int feet = 1; feet <= 20; feet++) {
            IceParliament x = Kit.with("spot s shade 0;" + CREW + "act p plain feet " + feet + " chips 8 worth 5 by a; nights 1 0 0 0;");
            KIT.due("not begun", x.falls(0), -1);
            x.begin(0, 0);
            // of each four nights the first takes a foot: the n-th foot falls in night 4 n - 3
            KIT.due(feet + " feet", x.falls(0), 4 * feet - 3 <= 40 ? 4 * feet - 3 : -1);
            x.torch(0);
            KIT.due("a foot less", x.falls(0), feet > 1 && 4 * feet - 7 <= 40 ? 4 * feet - 7 : -1);
        }
        IceParliament y = Kit.with("spot s shade 0;" + CREW + "act p plain feet 11 chips 8 worth 5 by a; nights 1 0 0 0;");
        y.begin(0, 0);
        KIT.due("the 41st", y.falls(0), -1);
        y.night();
        KIT.due("the 40th, from now on", y.falls(0), 40);
        y.night();
        KIT.due("the 39th", y.falls(0), 39);
        IceParliament z = Kit.with("spot s shade 0;" + CREW + "act p plain feet 20 chips 8 worth 5 by a; melts 9;");
        z.begin(0, 0);
        KIT.due("9, 9 and 2", z.falls(0), 3);
        z.prop(0);
        z.prop(0);
        z.prop(0);
        KIT.due("three of 6 and 2", z.falls(0), 4);
    }

    // ---- CLASHES and MEND

    /** All six stand; nothing melts; each CARVER's skill is enough for one night. */
    private static IceParliament sixStand(int[] worth, String more) {
        StringBuilder yard = new StringBuilder("melts 0;");
        for (int i = 0; i < 6; i++) {
            yard.append("spot s").append((char) ('a' + i)).append(" shade 0; carver c").append((char) ('a' + i)).append(" ayes skill 9;");
        }
        for (int i = 0; i < 6; i++) {
            yard.append("act p").append((char) ('a' + i)).append(" plain feet 9 chips 9 worth ").append(worth[i]).append(" by c")
                .append((char) ('a' + i)).append(";");
        }
        IceParliament x = Kit.with(yard + more);
        for (int i = 0; i < 6; i++) {
            x.begin(i, i);
        }
        return x;
    }

    private static String allPairs() {
        StringBuilder text = new StringBuilder();
        for (char first = 'a'; first < 'g'; first++) {
            for (char second = 'a'; second < first; second++) {
                text.append("clash p").append(first).append(" p").append(second).append(";");
            }
        }
        return text.toString();
    }

    /** "told pairs that are both in FORCE". */
    private static void clashesOfAll() {
        IceParliament x = sixStand(new int[] {1, 1, 1, 1, 1, 1}, allPairs());
        KIT.due("all 15 are told", x.count(3), 15);
        for (int n = 0; n < 6; n++) {
            KIT.due(n + " in force", x.clashes(), n * (n - 1) / 2);
            KIT.due("so many go", x.mend(0), Math.max(0, n - 1));
            KIT.due("the least set", x.mend(1), n == 0 ? 0 : (1 << n - 1) - 1);
            x.carve(n, n);
        }
        int[] all = {x.clashes(), x.mend(0), x.mend(1)};
        KIT.row("six in force", all, 15, 5, 31);
        for (int i = 0; i < 9; i++) {
            x.torch(0);
        }
        int[] five = {x.clashes(), x.mend(0), x.mend(1)};
        KIT.row("the first fell", five, 10, 4, 30);
    }

    private static int[] mended(int[] worth, String clashes) {
        IceParliament x = sixStand(worth, clashes);
        for (int i = 0; i < 6; i++) {
            x.carve(i, i);
        }
        return new int[] {x.clashes(), x.mend(0), x.mend(1)};
    }

    /** "the least worth together; of equal ones the least set (bits)". */
    private static void leastToMend() {
        int[] rising = {10, 20, 30, 40, 50, 60};
        int[] falling = {60, 50, 40, 30, 20, 10};
        int[] nothing = {0, 0, 0, 0, 0, 0};
        KIT.row("no pair", mended(rising, ""), 0, 0, 0);
        KIT.row("all pairs, rising", mended(rising, allPairs()), 15, 150, 31);
        KIT.row("all pairs, falling", mended(falling, allPairs()), 15, 150, 62);
        KIT.row("all pairs, of no worth", mended(nothing, allPairs()), 15, 0, 31);
        KIT.row("one pair, of no worth", mended(nothing, "clash pa pb;"), 1, 0, 1);
        KIT.row("one pair, told the other way", mended(nothing, "clash pb pa;"), 1, 0, 1);
        KIT.row("the last pair", mended(rising, "clash pf pe;"), 1, 50, 16);
        KIT.row("of no worth beside one of some", mended(new int[] {5, 0, 9, 9, 9, 9}, "clash pa pb;"), 1, 0, 2);
        KIT.row("one of 3 for two of 1 and 1", mended(new int[] {1, 3, 1, 9, 9, 9}, "clash pa pb; clash pb pc;"), 2, 2, 5);
        KIT.row("one of 2 for two of 1 and 1", mended(new int[] {1, 2, 1, 9, 9, 9}, "clash pa pb; clash pb pc;"), 2, 2, 2);
        KIT.row("two and one are equal", mended(new int[] {1, 1, 2, 9, 9, 9}, "clash pa pc; clash pb pc;"), 2, 2, 3);
        KIT.row("99 each", mended(new int[] {99, 99, 99, 99, 99, 99}, allPairs()), 15, 495, 31);
        IceParliament x = sixStand(rising, "clash pa pb;");
        x.carve(0, 0);
        int[] one = {x.clashes(), x.mend(0), x.mend(1)};
        KIT.row("one of the pair in force", one, 0, 0, 0);
    }

    // ---- WORK

    private static int[] work(IceParliament x, int nights) {
        int[] row = new int[1 + x.count(1)];
        for (int what = 0; what < row.length; what++) {
            row[what] = x.work(nights, what);
        }
        return row;
    }

    /** "so many (1 to 6) NIGHTS": ahead of each of them, no more. */
    private static void workNights() {
        for (int chips = 1; chips <= 7; chips++) {
            IceParliament x = Kit.with("spot s shade 9; carver a ayes skill 1; act p plain feet 9 chips " + chips + " worth 5 by a;");
            x.begin(0, 0);
            for (int nights = 1; nights <= 6; nights++) {
                KIT.row(chips + " chips in " + nights, work(x, nights), nights >= chips ? 5 : 0, 0);
            }
            x.carve(0, 0);
            for (int nights = 1; nights <= 6; nights++) {
                KIT.row(chips + " chips in " + nights + ", one is carved", work(x, nights), nights >= chips ? 5 : 0, 0);
            }
        }
        IceParliament y = Kit.with("spot s shade 0; carver a ayes skill 9; act p plain feet 6 chips 9 worth 5 by a; nights 1;");
        y.begin(0, 0);
        KIT.row("it stands behind five", work(y, 5), 5, 0);
        KIT.row("it falls in the sixth", work(y, 6), 0, 0);
        y.torch(0);
        KIT.row("it falls in the fifth", work(y, 5), 0, 0);
        KIT.row("it stands behind four", work(y, 4), 5, 0);
        IceParliament z = Kit.with("spot s shade 0; carver a ayes skill 9; act p plain feet 6 chips 9 worth 5 by a; nights 0 9;");
        z.begin(0, 0);
        KIT.row("a night of 0", work(z, 1), 5, 0);
        KIT.row("then one of 9", work(z, 2), 0, 0);
        z.night();
        KIT.row("from now on one of 9", work(z, 1), 0, 0);
        IceParliament three = Kit.with("spot s shade 0; carver a ayes skill 9; act p plain feet 6 chips 9 worth 5 by a; nights 1 2 9;");
        three.begin(0, 0);
        KIT.row("1 and 2 of six feet", work(three, 2), 5, 0);
        KIT.row("1, 2 and 9", work(three, 3), 0, 0);
        three.night();
        three.night();
        three.undo();
        KIT.row("2 of five feet", work(three, 1), 5, 0);
        KIT.row("2 and 9", work(three, 2), 0, 0);
    }

    /** "of equal ones the first row (of CARVERS, by numbers, their ACTS, none behind all)". */
    private static void workRows() {
        String yard = "spot s shade 9; spot d shade 9; carver a ayes skill 1; carver b noes skill 1;"
            + "act p plain feet 9 chips 2 worth 5 by a; act q plain feet 9 chips 2 worth 5 by b;";
        IceParliament x = Kit.with(yard);
        KIT.row("none stands", work(x, 6), 0, -1, -1);
        x.begin(1, 1);
        KIT.row("only q stands", work(x, 1), 5, 1, 1);
        x.begin(0, 0);
        KIT.row("p by both is ahead of q by both", work(x, 1), 5, 0, 0);
        KIT.row("both, in two nights", work(x, 2), 10, 0, 1);
        IceParliament y = Kit.with(yard.replace("worth 5 by b", "worth 6 by b"));
        y.begin(0, 0);
        y.begin(1, 1);
        KIT.row("the most first", work(y, 1), 6, 1, 1);
        IceParliament z = Kit.with(yard.replace("worth 5", "worth 0"));
        z.begin(0, 0);
        z.begin(1, 1);
        KIT.row("of no worth: the first row of all", work(z, 6), 0, 0, 0);
        IceParliament w = Kit.with("spot s shade 9; carver a ayes skill 1; carver b noes skill 2; act p plain feet 9 chips 9 worth 5 by a;"
            + "carves (able = 1) + (able = 2) * (done = 0) * 9;");
        w.begin(0, 0);
        KIT.row("a takes none, for he is ahead of b", work(w, 1), 5, -1, 0);
        KIT.row("nor in six nights, for a alone brings six chips", work(w, 6), 5, -1, 0);
        IceParliament v = Kit.with("spot s shade 9; spot d shade 9; carver a ayes skill 2; carver b noes skill 1;"
            + "act p plain feet 9 chips 9 worth 5 by a; act q plain feet 9 chips 9 worth 0 by a; carves (able = 1) + (able = 2) * (done = 0) * 9;");
        v.begin(0, 0);
        v.begin(1, 1);
        KIT.row("a is ahead of b by his number", work(v, 1), 5, 0, 0);
    }

    /** "each of the first four CARVERS who are not hurt (others none)". */
    private static void workOfFour() {
        for (int carvers = 0; carvers <= 6; carvers++) {
            StringBuilder yard = new StringBuilder("spot s shade 9; carver m ayes skill 1;");
            for (int i = 1; i < carvers; i++) {
                yard.append("carver c").append((char) ('a' + i)).append(" ayes skill 1;");
            }
            if (carvers == 0) {
                IceParliament none = Kit.with("spot s shade 9;");
                int[] row = {none.work(1, 0), none.work(6, 0), none.work(1, 1)};
                KIT.row("no carver", row, 0, 0, -2);
                continue;
            }
            for (int chips = 1; chips <= 6; chips++) {
                IceParliament x = Kit.with(yard + "act p plain feet 9 chips " + chips + " worth 5 by m;");
                x.begin(0, 0);
                int[] want = {Math.min(4, carvers) >= chips ? 5 : 0, 0, carvers > 1 ? 0 : -1, carvers > 2 ? 0 : -1, carvers > 3 ? 0 : -1,
                    -1, -1};
                KIT.row(chips + " chips by " + carvers, work(x, 1), java.util.Arrays.copyOf(want, 1 + carvers));
                KIT.due("one carver more", x.work(1, carvers + 1), -2);
            }
        }
        StringBuilder yard = new StringBuilder("spot s shade 0; spot d shade 9;");
        for (int i = 0; i < 6; i++) {
            yard.append("carver c").append((char) ('a' + i)).append(" ayes skill 1;");
        }
        for (int hurt = 0; hurt < 6; hurt++) {
            IceParliament x = Kit.with(yard + "act p plain feet 3 chips 9 worth 1 by c" + (char) ('a' + hurt)
                + "; act q plain feet 9 chips 4 worth 7 by ca;");
            x.begin(0, 0);
            x.carve(hurt, 0);
            x.night();
            x.begin(1, 1);
            int[] want = {7, 1, 1, 1, 1, hurt < 4 ? 1 : -1, -1};
            want[1 + hurt] = -1;
            KIT.row("hurt is " + hurt, work(x, 1), want);
        }
    }

    private static void workOfNone() {
        IceParliament x = Kit.with("spot s shade 0; carver a ayes skill 1; act p plain feet 3 chips 9 worth 1 by a;"
            + "spot d shade 9; act q plain feet 9 chips 1 worth 7 by a;");
        x.begin(0, 0);
        x.carve(0, 0);
        x.night();
        x.begin(1, 1);
        KIT.row("the only carver is hurt", work(x, 6), 0, -1);
        IceParliament y = Kit.with("spot d shade 9; carver a ayes skill 1;");
        KIT.row("no act", work(y, 6), 0, -1);
        IceParliament z = Kit.with("spot d shade 9; carver a ayes skill 0; act q plain feet 9 chips 1 worth 7 by a;");
        z.begin(0, 0);
        KIT.row("a carves nothing, and takes it", work(z, 6), 0, 0);
    }

    /** What is in FORCE already counts, if it stands at last, and may be taken. */
    private static void workOfWhatStays() {
        IceParliament x = Kit.with(YARD + "nights 3 0;");
        x.begin(0, 0);
        x.begin(1, 1);
        x.carve(1, 1);
        KIT.row("q is in force", work(x, 1), 7, 0, 0);
        KIT.row("p falls tonight", work(x, 6), 7, 0, 0);
        x.prop(0);
        KIT.row("p stands by its prop: 4 tonight, then 4 and 9", work(x, 2), 12, 0, 0);
        x.mark(0, false);
        x.night();
        x.mark(1, false);
        KIT.row("behind the night 9 at once", work(x, 1), 12, 0, 0);
        KIT.due("nothing is done by that", x.act(0, 2) + x.count(4), 1);
    }

    // ---- PLACES

    private static int[] places(IceParliament x) {
        int[] row = new int[1 + x.count(2)];
        for (int act = -1; act < x.count(2); act++) {
            row[1 + act] = x.places(act);
        }
        return row;
    }

    /** "ACTS not begun to SPOTS where none STANDS, as many as can be, one each". */
    private static void placesOfAll() {
        for (int spots = 0; spots <= 6; spots++) {
            for (int acts = 0; acts <= 6; acts++) {
                StringBuilder yard = new StringBuilder("carver m ayes skill 1;");
                for (int i = 0; i < spots; i++) {
                    yard.append("spot s").append((char) ('a' + i)).append(" shade 9;");
                }
                for (int i = 0; i < acts; i++) {
                    yard.append("act p").append((char) ('a' + i)).append(" plain feet 9 chips 9 worth 1 by m;");
                }
                IceParliament x = Kit.with(yard.toString());
                int[] want = new int[1 + acts];
                want[0] = 41 * Math.min(spots, acts);
                for (int i = 0; i < acts; i++) {
                    want[1 + i] = i < spots ? i : -1;
                }
                KIT.row(acts + " acts to " + spots + " spots", places(x), want);
                KIT.due("the act behind", x.places(acts), -2);
                KIT.due("below none", x.places(-2), -2);
            }
        }
        IceParliament many = Kit.with("spot s shade 0; spot t shade 1; carver m ayes skill 1; act p plain feet 1 chips 9 worth 1 by m;"
            + "act q plain feet 1 chips 9 worth 1 by m; nights 9;");
        KIT.row("two of 1 and 1, or 1 and 1: the first row", places(many), 2, 0, 1);
        IceParliament more = Kit.with("spot s shade 0; spot t shade 5; carver m ayes skill 1; act p old feet 1 chips 9 worth 1 by m;"
            + "act q plain feet 1 chips 9 worth 1 by m; nights 9;");
        KIT.row("p for ever at t, and q beside it for one", places(more), 42, 1, 0);
        IceParliament last = Kit.with("spot s shade 0; spot t shade 9; carver m ayes skill 1; act p plain feet 1 chips 9 worth 1 by m;"
            + "act q plain feet 2 chips 9 worth 1 by m; act r plain feet 2 chips 9 worth 1 by m; nights 1 1;");
        KIT.row("p for 1 or 41, q and r for 2 or 41: none comes behind all", places(last), 43, 1, 0, -1);
        IceParliament first = Kit.with("spot s shade 0; carver m ayes skill 1; act p plain feet 1 chips 9 worth 1 by m;"
            + "act q plain feet 2 chips 9 worth 1 by m; act r plain feet 2 chips 9 worth 1 by m; nights 1 1;");
        KIT.row("q for 2, and r as well: the first", places(first), 2, -1, 0, -1);
    }

    /** "(each 1 to 40, 41 if it does not fall by then)". */
    private static void placesTillTheFortieth() {
        for (int feet = 1; feet <= 20; feet++) {
            IceParliament x = Kit.with("spot s shade 0;" + CREW + "act p plain feet " + feet + " chips 8 worth 5 by a; nights 1 0 0 0;");
            KIT.due(feet + " feet", x.places(-1), Math.min(41, 4 * feet - 3));
            IceParliament y = Kit.with("spot s shade 0;" + CREW + "act p plain feet " + feet + " chips 8 worth 5 by a; nights 0 0 0 1;");
            KIT.due(feet + " feet", y.places(-1), feet > 10 ? 41 : 4 * feet);
        }
        IceParliament z = Kit.with("spot s shade 0; spot d shade 1;" + CREW + "act p plain feet 10 chips 8 worth 5 by a; nights 0 0 0 1;");
        KIT.row("41 is more than 40", places(z), 41, 1);
        IceParliament w = Kit.with("spot s shade 0; spot d shade 1;" + CREW + "act p plain feet 11 chips 8 worth 5 by a; nights 0 0 0 1;");
        KIT.row("the 44th is as good as never", places(w), 41, 0);
        IceParliament v = Kit.with("spot s shade 0; " + CREW + "act p plain feet 9 chips 8 worth 5 by a; nights 9;");
        KIT.row("in the first", places(v), 1, 0);
    }

    /** "begun now and left alone", "(NONE: none, it is begun)". */
    private static void placesFromNowOn() {
        IceParliament x = Kit.with(YARD + "nights 9 1 1 1;");
        KIT.row("at s each in one night", places(x), 42, 0, 1);
        x.night();
        KIT.row("at s p in three, q in four: 9 behind 1 1 1", places(x), 45, 1, 0);
        x.undo();
        x.begin(0, 1);
        KIT.row("p is begun, d is taken", places(x), 1, -1, 0);
        x.begin(1, 0);
        KIT.row("both are begun", places(x), 0, -1, -1);
        x.torch(0);
        x.torch(0);
        x.torch(0);
        KIT.row("p fell: it is not placed again", places(x), 0, -1, -1);
        x.undo();
        x.undo();
        x.undo();
        x.undo();
        x.torch(0);
        x.torch(0);
        x.torch(0);
        KIT.row("p fell: its spot is free for q", places(x), 41, -1, 1);
    }

    // ---- THIN

    /** "the fewest feet (1 to 40)", "NONE: .. not by 40". */
    private static void thinTo40() {
        String[] nights = {"0", "1", "9", "9 9 9 9 2", "9 9 9 9 3", "9 9 9 9 4"};
        int[] count = {5, 5, 4, 5, 5, 5};
        int[] want = {1, 6, 37, 39, 40, -1};
        for (int i = 0; i < nights.length; i++) {
            IceParliament x = Kit.with(YARD + "nights " + nights[i] + ";");
            KIT.due("nights " + nights[i], x.thin(0, 0, count[i]), want[i]);
            KIT.due("in the shade", x.thin(0, 1, 30), 1);
        }
        String[] laws = {"(tall < 1) * 9", "(tall < 2) * 9", "(tall < 39) * 9", "(tall < 40) * 9", "(tall < 41) * 9", "tall", "tall - 1", "tall - 40"};
        int[] one = {1, 2, 10, 10, 10, 10, 1, 1};
        int[] thirty = {1, 2, 39, 40, -1, -1, 1, 1};
        for (int i = 0; i < laws.length; i++) {
            IceParliament x = Kit.with(YARD + "melts " + laws[i] + ";");
            KIT.due("one night, melts " + laws[i], x.thin(0, 0, 1), one[i]);
            KIT.due("thirty nights, melts " + laws[i], x.thin(0, 0, 30), thirty[i]);
        }
    }

    /** "begun now at a SPOT (whatever STANDS there, without props)", "so many (1 to 30) NIGHTS". */
    private static void thinNights() {
        String[] kinds = {"plain", "hollow", "thin", "old"};
        for (int kind = 0; kind < 4; kind++) {
            IceParliament x = Kit.with("spot s shade 4; spot d shade 5;" + CREW + "act p " + kinds[kind]
                + " feet 20 chips 8 worth 5 by a; melts 1;");
            int[] each = {1, 2, 0, 1};
            for (int nights = 0; nights <= 31; nights++) {
                int need = 1 + nights * each[kind];
                boolean in = nights >= 1 && nights <= 30;
                KIT.due(kinds[kind] + " for " + nights, x.thin(0, 0, nights), !in || need > 40 ? -1 : need);
                int shade = 1 + nights * (kind == 3 ? 0 : each[kind]);
                KIT.due(kinds[kind] + " in the shade for " + nights, x.thin(0, 1, nights), !in || shade > 40 ? -1 : shade);
            }
        }
        IceParliament x = Kit.with(YARD + "nights 1 5 2;");
        KIT.due("1 and 5", x.thin(1, 0, 2), 7);
        x.begin(0, 0);
        x.prop(0);
        x.prop(0);
        KIT.due("p stands there", x.thin(1, 0, 2), 7);
        KIT.due("itself, without its props", x.thin(0, 0, 2), 7);
        x.torch(0);
        KIT.due("whatever is left of it", x.thin(0, 0, 2), 7);
        x.night();
        KIT.due("begun now: 5 and 2", x.thin(0, 0, 2), 8);
        KIT.due("5, 2 and 1", x.thin(1, 0, 3), 9);
    }

    // ---- STANDS by chance

    private static int chance(int feet, int mild, int nights) {
        IceParliament x = Kit.with("spot s shade 3;" + CREW + "act p plain feet " + feet + " chips 9 worth 1 by a; melts warmth = 6; mild "
            + mild + ";");
        x.begin(0, 0);
        return x.stands(0, nights);
    }

    /** "the chance, in millionths, cut": a foot a mild night, none else. */
    private static void chances() {
        int[] ninths = {100000, 10000, 1000, 100, 10, 1, 0, 0};
        int[] halves = {500000, 250000, 125000, 62500, 31250, 15625, 7812, 3906};
        for (int nights = 1; nights <= 8; nights++) {
            KIT.due("never mild", chance(1, 0, nights), 1000000);
            KIT.due("always mild, feet enough", chance(nights + 1, 10, nights), 1000000);
            KIT.due("always mild, a foot too few", chance(nights, 10, nights), 0);
            KIT.due("none of nine in ten", chance(1, 9, nights), ninths[nights - 1]);
            KIT.due("none of five in ten", chance(1, 5, nights), halves[nights - 1]);
            KIT.due("not all of one in ten", chance(nights, 1, nights),
                nights > 6 ? 999999 : 1000000 - ninths[nights - 1]);
            KIT.due("20 feet are enough", chance(20, 9, nights), 1000000);
        }
        KIT.due("no night", chance(1, 5, 0), -1);
        KIT.due("a ninth", chance(1, 5, 9), -1);
        KIT.due("at most one of two by .3: .91", chance(2, 3, 2), 910000);
        KIT.due("at most one of eight by .3: .25529833", chance(2, 3, 8), 255298);
        KIT.due("at most seven of eight by .9: 1 - .43046721", chance(8, 9, 8), 569532);
        KIT.due("at most seven of eight by .1", chance(8, 1, 8), 999999);
    }

    /** "mild .. its warmth is 3 more then (E as told)", "0 to 10 (0)", "from now on". */
    private static void chancesOfMildNights() {
        for (int warmth = 0; warmth <= 9; warmth++) {
            IceParliament x = Kit.with("spot s shade 0;" + CREW + "act p plain feet 1 chips 9 worth 1 by a; nights " + warmth
                + "; mild 10; melts not (warmth = " + (warmth + 3) + ");");
            x.begin(0, 0);
            KIT.due("3 more than " + warmth, x.stands(0, 8), 1000000);
            KIT.due("by hand it is as told", x.act(0, 8), 1);
            KIT.due("count(5) too", x.count(5), warmth);
        }
        IceParliament cut = Kit.with("spot s shade 0;" + CREW + "act p plain feet 10 chips 9 worth 1 by a; nights 9; mild 10;");
        cut.begin(0, 0);
        KIT.due("12, but 9 at most", cut.stands(0, 1), 1000000);
        KIT.due("twice", cut.stands(0, 2), 0);
        IceParliament x = Kit.with("spot s shade 0; spot d shade 9;" + CREW + "act p plain feet 4 chips 9 worth 1 by a;"
            + "act q old feet 1 chips 9 worth 1 by a; nights 0 3; mild 5;");
        KIT.due("not begun", x.stands(0, 1), -1);
        x.begin(0, 0);
        x.begin(1, 1);
        KIT.due("0 or 3: it stands", x.stands(0, 1), 1000000);
        KIT.due("then 3 or 6: only by 0 and 3", x.stands(0, 2), 250000);
        KIT.due("an old one in the shade", x.stands(1, 8), 1000000);
        x.prop(0);
        // of 0 or 2, then 2 or 5, four feet stand only by 0 and 2
        KIT.due("less a prop", x.stands(0, 2), 250000);
        x.torch(0);
        KIT.due("three feet less 0 or 2, then 2 or 5", x.stands(0, 2), 250000);
        x.prop(0);
        // 0 or 1, then 1 or 4: three feet stand by 0 1 and by 1 1
        KIT.due("less two props", x.stands(0, 2), 500000);
        x.night();
        KIT.due("from now on: 3 or 6 less two", x.stands(0, 1), 500000);
        IceParliament three = Kit.with("spot s shade 0;" + CREW + "act p plain feet 6 chips 9 worth 1 by a; nights 1 2 9;");
        three.begin(0, 0);
        KIT.due("1 and 2 of six feet", three.stands(0, 2), 1000000);
        KIT.due("1, 2 and 9", three.stands(0, 3), 0);
        IceParliament none = Kit.with("spot s shade 0;" + CREW + "act p plain feet 4 chips 9 worth 1 by a;");
        none.begin(0, 0);
        KIT.due("without mild: none", none.stands(0, 1), 1000000);
        KIT.due("6 of 4 feet", none.stands(0, 2), 0);
    }

    // ---- PROPPED

    /** "worth in FORCE behind so many (1 to 30) NIGHTS .. more than without". */
    private static void proppedNights() {
        // a foot in the nights 1, 15 and 29
        for (int feet = 1; feet <= 4; feet++) {
            IceParliament x = Kit.with("spot s shade 0;" + CREW + "act p plain feet " + feet
                + " chips 9 worth 1 by a; nights 1 0 0 0 0 0 0 0 0 0 0 0 0 0;");
            x.begin(0, 0);
            KIT.due("not in force", x.propped(30), -1);
            x.carve(1, 0);
            for (int nights = 0; nights <= 31; nights++) {
                boolean in = nights >= 1 && nights <= 30;
                KIT.due(feet + " feet, " + nights, x.propped(nights), in && nights >= 14 * feet - 13 ? 0 : -1);
            }
            x.prop(0);
            KIT.due("it stands by its prop", x.propped(30), -1);
        }
        IceParliament none = Kit.with(YARD.replace("worth 5", "worth 0"));
        none.begin(0, 0);
        none.carve(1, 0);
        KIT.due("of no worth: not more than without", none.propped(1), -1);
        IceParliament three = Kit.with("spot s shade 0;" + CREW + "act p plain feet 5 chips 9 worth 1 by a; melts 7;");
        three.begin(0, 0);
        three.carve(1, 0);
        KIT.due("7 less 1 of 5", three.propped(1), -1);
        three.prop(0);
        KIT.due("7 less 2 of 5", three.propped(1), -1);
        three.prop(0);
        KIT.due("7 less 3 of 5", three.propped(1), 0);
        three.prop(0);
        KIT.due("three at most", three.propped(1), -1);
        KIT.due("it would have stood", three.night(), 0);
        IceParliament worse = Kit.with("spot s shade 0;" + CREW + "act p plain feet 9 chips 9 worth 1 by a; melts 2 + (tall = 8) * 7;");
        worse.begin(0, 0);
        worse.carve(1, 0);
        KIT.due("by a prop it falls sooner", worse.propped(2), -1);
        KIT.due("so it does at last", worse.propped(6), -1);
    }

    /** "the ACT that STANDS and has fewer than three props", "of equal ones the first". */
    private static void proppedFirst() {
        int[] worth = {1, 2, 2, 1, 2, 0};
        IceParliament x = sixStand(worth, "");
        KIT.due("nothing melts", x.propped(30), -1);
        StringBuilder yard = new StringBuilder("nights 1;");
        for (int i = 0; i < 6; i++) {
            yard.append("spot s").append((char) ('a' + i)).append(" shade 0; carver c").append((char) ('a' + i)).append(" ayes skill 9;");
        }
        for (int i = 0; i < 6; i++) {
            yard.append("act p").append((char) ('a' + i)).append(" plain feet 9 chips 9 worth ").append(worth[i]).append(" by c")
                .append((char) ('a' + i)).append(";");
        }
        IceParliament y = Kit.with(yard.toString());
        for (int i = 0; i < 6; i++) {
            y.begin(i, i);
            y.carve(i, i);
        }
        KIT.due("they stand behind eight", y.propped(8), -1);
        int[] first = {1, 2, 4, 0, 3, -1};
        for (int act : first) {
            KIT.due("the first of the most", y.propped(9), act);
            if (act >= 0) {
                y.prop(act);
            }
        }
        y.undo();
        for (int i = 0; i < 9; i++) {
            y.torch(3);
        }
        KIT.due("what fell is not propped", y.propped(9), -1);
        IceParliament all = Kit.with(YARD);
        all.begin(0, 0);
        all.carve(1, 0);
        all.begin(1, 1);
        KIT.due("p, not q that stands for ever", all.propped(1), 0);
        KIT.due("nothing is propped by that", all.act(0, 5), 0);
    }

    // ---- BREATH

    /** "(0 to 20)", "a later one in place of the elder". */
    private static void tellable() {
        IceParliament x = Kit.with(YARD);
        KIT.due("not begun", x.tell(1, 9), false);
        x.begin(1, 1);
        for (int feet = -2; feet <= 22; feet++) {
            KIT.due("feet " + feet, x.tell(1, feet), feet >= 0 && feet <= 20);
            int[] row = {x.count(10), x.sets(0)};
            KIT.row("it has 9 then", row, feet < 0 ? 0 : 1, feet < 0 || feet == 9 ? 1 : 0);
        }
        KIT.due("it stands with 9 now", x.tell(1, 9), true);
        KIT.due("so it is", x.sets(0), 1);
        KIT.due("telling is no deed", x.count(11), 1);
        x.night();
        int[] behind = {x.count(10), x.sets(0)};
        KIT.row("behind a night nothing is told", behind, 0, 1);
        IceParliament tall = Kit.with("spot s shade 9;" + CREW + "act p plain feet 20 chips 9 worth 1 by a;");
        tall.begin(0, 0);
        tall.tell(0, 20);
        KIT.due("20 feet stay", tall.sets(0), 1);
        IceParliament gone = Kit.with(YARD);
        gone.begin(0, 0);
        gone.tell(0, 0);
        KIT.due("3 feet less 3", gone.sets(0), 1);
        gone.tell(0, 1);
        KIT.due("not 1", gone.sets(0), 0);
        gone.torch(0);
        gone.torch(0);
        gone.torch(0);
        int[] fell = {gone.count(10), gone.sets(0), Kit.bit(gone.tell(0, 0))};
        KIT.row("1 is told of what does not stand any more: it has 0", fell, 1, 0, 0);
    }

    /** Six CARVERS who carved one ACT of so many feet that does not melt. */
    private static IceParliament breathed(int feet, int carvers) {
        StringBuilder yard = new StringBuilder("spot s shade 9; spot d shade 9; melts 0;");
        for (int i = 0; i < 6; i++) {
            yard.append("carver c").append((char) ('a' + i)).append(" ayes skill 1;");
        }
        IceParliament x = Kit.with(yard + "act p plain feet " + feet + " chips 99 worth 1 by ca; act q plain feet 9 chips 99 worth 1 by ca;");
        x.begin(0, 0);
        x.begin(1, 1);
        for (int i = 0; i < carvers; i++) {
            x.carve(i, 0);
        }
        return x;
    }

    private static int[] sets(IceParliament x) {
        return new int[] {x.sets(0), x.sets(1), x.sets(2)};
    }

    /** "SETS of CARVERS who carved .. how many; those in all, in some (bits)": none carved, and all six. */
    private static void setsOfAll() {
        int[] ways = {1, 6, 15, 20, 15, 6, 1};
        for (int carvers = 0; carvers <= 6; carvers++) {
            IceParliament x = breathed(9, carvers);
            KIT.row(carvers + " carved", sets(x), 1 << carvers, 0, (1 << carvers) - 1);
            KIT.due("each parts them", x.look(), carvers == 0 ? -1 : 0);
            x.tell(0, 9);
            KIT.row("none of " + carvers + " breathes", sets(x), 1, 0, 0);
            x.tell(0, 9 - carvers);
            KIT.row("all of " + carvers + " breathe", sets(x), 1, (1 << carvers) - 1, (1 << carvers) - 1);
            x.tell(0, 10);
            KIT.row("a foot more than stands", sets(x), 0, -1, -1);
            x.tell(0, 8 - carvers);
            KIT.row("a foot less than they can take", sets(x), 0, -1, -1);
            x.tell(1, 9);
            KIT.row("nor by the other one", sets(x), 0, -1, -1);
        }
        IceParliament six = breathed(9, 6);
        for (int breathe = 0; breathe <= 6; breathe++) {
            six.tell(0, 9 - breathe);
            KIT.row(breathe + " of six", sets(six), ways[breathe], breathe == 6 ? 63 : 0, breathe == 0 ? 0 : 63);
        }
        six.tell(1, 9);
        KIT.row("all is told", sets(six), 1, 63, 63);
        six.tell(1, 8);
        KIT.row("who carved p breathes on p alone", sets(six), 0, -1, -1);
        for (int feet = 1; feet <= 6; feet++) {
            IceParliament low = breathed(feet, 6);
            low.tell(0, 0);
            int some = 0;
            for (int n = feet; n <= 6; n++) {
                some += ways[n];
            }
            KIT.row("0 at least, of " + feet, sets(low), some, feet == 6 ? 63 : 0, 63);
        }
    }

    private static void setsOfTold() {
        IceParliament x = Kit.with(YARD + "carver c ayes skill 1;");
        x.begin(0, 0);
        x.begin(1, 1);
        x.carve(0, 0);
        x.carve(1, 1);
        KIT.row("nothing told: a on p, b on q", sets(x), 4, 0, 3);
        x.tell(1, 9);
        KIT.row("b does not breathe", sets(x), 2, 0, 1);
        x.tell(1, 8);
        KIT.row("b does", sets(x), 2, 2, 3);
        x.tell(0, 0);
        KIT.row("p falls by the night: nothing of a", sets(x), 2, 2, 3);
        x.tell(0, 1);
        KIT.row("p can't have 1", sets(x), 0, -1, -1);
        x.tell(0, 0);
        x.torch(0);
        x.torch(0);
        x.torch(0);
        KIT.row("p fell by torches: it has 0", sets(x), 2, 2, 3);
        KIT.due("a carved it all the same", x.carver(0, 2), 0);
        x.night();
        KIT.row("behind the night nobody carved", sets(x), 1, 0, 0);
    }

    /** "by which the greatest number of SETS with like feet is the least, if it is less than all". */
    private static void lookWhereItParts() {
        for (int carvers = 0; carvers <= 6; carvers++) {
            for (int feet = 1; feet <= 20; feet++) {
                IceParliament x = breathed(feet, carvers);
                KIT.due(carvers + " on " + feet, x.look(), carvers == 0 ? -1 : 0);
                x.tell(0, feet);
                KIT.due("p is told: q parts none", x.look(), -1);
            }
        }
        IceParliament x = breathed(9, 3);
        x.carve(3, 1);
        KIT.due("p into 1 3 3 1 by 2, q into 8 and 8", x.look(), 0);
        x.tell(0, 9);
        KIT.due("p is told: q into 1 and 1", x.look(), 1);
        x.tell(1, 9);
        KIT.due("all is told", x.look(), -1);
        IceParliament y = breathed(1, 3);
        y.carve(3, 1);
        KIT.due("p into 1 and 7, by 2: 14; q into 8 and 8", y.look(), 1);
        IceParliament z = breathed(9, 1);
        z.carve(1, 1);
        KIT.due("both into 2 and 2: the first", z.look(), 0);
        z.tell(0, 3);
        KIT.due("no set at all", z.look(), -1);
        IceParliament w = breathed(9, 1);
        w.carve(1, 1);
        for (int i = 0; i < 9; i++) {
            w.torch(0);
        }
        KIT.due("p fell: q", w.look(), 1);
        IceParliament v = Kit.with(YARD);
        v.begin(0, 0);
        v.carve(0, 0);
        KIT.due("p falls by the night whoever breathes", v.look(), -1);
        v.prop(0);
        KIT.due("by a prop it has 1 or 0", v.look(), 0);
    }

    // ---- RESTS

    /**
     * Both hold: neither gets more if burning alone brings no more. One burns: he rests if burning brings no less,
     * the other one always (nothing is no less than a loss). Both burn: nothing is no more only than a loss of nothing.
     */
    private static void restsOfAll() {
        for (int hold = 0; hold <= 9; hold++) {
            IceParliament x = new IceParliament();
            for (int burn = 0; burn <= 9; burn++) {
                for (int loses = 0; loses <= 9; loses += loses == 1 ? 7 : 1) {
                    int[] rests = new int[4];
                    int many = 0;
                    for (int pair = 0; pair < 4; pair++) {
                        if (pair == 0 ? hold >= burn : pair == 3 ? loses == 0 : burn >= hold) {
                            rests[many++] = pair;
                        }
                    }
                    String call = "rests(" + hold + ", " + burn + ", " + loses;
                    KIT.due(call + ", -1)", Kit.rests(x, hold, burn, loses, -1), many);
                    for (int i = 0; i <= 4; i++) {
                        KIT.due(call + ", " + i + ")", Kit.rests(x, hold, burn, loses, i), i < many ? rests[i] : Kit.THROWN);
                    }
                    KIT.due(call + ", -2)", Kit.rests(x, hold, burn, loses, -2), Kit.THROWN);
                    x = new IceParliament();
                }
            }
        }
    }

    // ---- DECADES

    private static final class Draws {
        private java.math.BigInteger g;

        Draws(int seed) {
            g = java.math.BigInteger.valueOf(seed);
        }

        int below(int m) {
            g = g.multiply(java.math.BigInteger.valueOf(1103515245)).add(java.math.BigInteger.valueOf(12345))
                .mod(java.math.BigInteger.ONE.shiftLeft(31));
            return g.shiftRight(16).mod(java.math.BigInteger.valueOf(m)).intValueExact();
        }
    }

    private static String decadeYard(int more, String kind) {
        return "spot s shade 1; spot d shade 4; carver a ayes skill 3; carver b noes skill 2; act p " + kind
            + " feet 7 chips 5 worth 7 by a; act q plain feet 9 chips 4 worth 11 by b; act r plain feet 5 chips 9 worth 1 by a; nights "
            + (1 + more) + " " + (3 + more) + " " + (2 + more) + ";";
    }

    /** The same draws by hand: as told with mild 0, and in nights that are 3 warmer with mild 10. */
    private static void decadesDrawn() {
        String[] kinds = {"plain", "hollow", "thin", "old"};
        for (int seed : new int[] {0, 1, 2, 77, 4096, 9998, 9999}) {
            for (int nights : new int[] {1, 2, 3, 20, 59, 60}) {
                for (int mild : new int[] {0, 10}) {
                    String kind = kinds[(seed + nights) % 4];
                    IceParliament x = Kit.with(decadeYard(0, kind) + "mild " + mild + ";");
                    IceParliament byHand = Kit.with(decadeYard(mild == 0 ? 0 : 3, kind));
                    int[] want = lived(byHand, seed, nights);
                    int[] got = {x.decades(seed, nights, 0), x.decades(seed, nights, 1), x.decades(seed, nights, 2)};
                    KIT.row("decades(" + seed + ", " + nights + ") of " + kind + " with mild " + mild, got, want);
                    KIT.due("all is as ahead", x.count(4) + x.count(6) + x.count(7) + x.count(11), 0);
                }
            }
        }
    }

    private static int[] lived(IceParliament x, int seed, int nights) {
        Draws draws = new Draws(seed);
        int worth = 0;
        int fallen = 0;
        for (int i = 0; i < nights; i++) {
            int act = draws.below(x.count(2));
            x.begin(act, draws.below(2));
            x.carve(0, draws.below(3));
            x.carve(1, draws.below(3));
            draws.below(10);
            fallen += x.night();
            worth += x.count(8);
        }
        return new int[] {worth, fallen, x.carver(0, 3) + x.carver(1, 3)};
    }

    /** "if there are ACTS and SPOTS, ..; if there are ACTS and CARVERS, ..; then a DRAW below 10". */
    private static void decadesOfNothing() {
        String[] yards = {"", "spot s shade 1;", CREW, "spot s shade 1;" + CREW, CREW + "act p plain feet 1 chips 1 worth 1 by a;"};
        for (String yard : yards) {
            IceParliament x = Kit.with(yard + "mild 5;");
            for (int what = 0; what < 3; what++) {
                KIT.due("decades of " + yard, x.decades(3, 60, what), 0);
            }
        }
        // which night is mild hangs on the draws ahead of it: with an act that stands by hand and no free spot
        for (int seed = 0; seed < 40; seed++) {
            IceParliament x = Kit.with("spot s shade 0; carver a ayes skill 9; act p plain feet 1 chips 9 worth 1 by a; nights 9;"
                + "mild 1; melts 11 < warmth;");
            x.begin(0, 0);
            Draws draws = new Draws(seed);
            int worth = 0;
            boolean up = true;
            for (int i = 0; i < 30; i++) {
                draws.below(1);
                draws.below(1);
                draws.below(1);
                up &= draws.below(10) >= 1;
                worth += up ? 1 : 0;
            }
            KIT.due("till the first mild night of seed " + seed, x.decades(seed, 30, 0), worth);
            KIT.due("then it has fallen", x.decades(seed, 30, 1), up ? 0 : 1);
        }
        for (int seed = 0; seed < 20; seed++) {
            for (int mild = 0; mild <= 10; mild++) {
                IceParliament x = Kit.with("spot s shade 0; carver a ayes skill 0; act p plain feet 1 chips 9 worth 1 by a; nights 9; mild "
                    + mild + "; melts 11 < warmth;");
                x.begin(0, 0);
                Draws draws = new Draws(seed);
                draws.below(1);
                draws.below(1);
                draws.below(1);
                KIT.due("below " + mild + " it is mild, of seed " + seed, x.decades(seed, 1, 1), draws.below(10) < mild ? 1 : 0);
            }
        }
    }

    /** "how many have fallen by these; how many are hurt at last", "from now on". */
    private static void decadesFallenAndHurt() {
        IceParliament x = Kit.with("spot s shade 0; carver a ayes skill 1; carver b noes skill 1; act p plain feet 3 chips 9 worth 1 by a;"
            + "nights 3;");
        int[] one = {x.decades(1, 1, 0), x.decades(1, 1, 1), x.decades(1, 1, 2)};
        KIT.row("begun, carved, fallen, hurt", one, 0, 1, 1);
        int[] sixty = {x.decades(1, 60, 0), x.decades(1, 60, 1), x.decades(1, 60, 2)};
        KIT.row("it is never begun again", sixty, 0, 1, 1);
        x.begin(0, 0);
        x.carve(0, 0);
        x.night();
        int[] behind = {x.decades(1, 60, 0), x.decades(1, 60, 1), x.decades(1, 60, 2)};
        KIT.row("from now on: none falls, one is hurt at last", behind, 0, 0, 1);
        x.undo();
        int[] carved = {x.decades(1, 1, 0), x.decades(1, 1, 1), x.decades(1, 1, 2)};
        KIT.row("a has carved tonight", carved, 0, 1, 1);
        x.undo();
        x.prop(0);
        x.prop(0);
        x.prop(0);
        int[] props = {x.decades(1, 60, 0), x.decades(1, 60, 1), x.decades(1, 60, 2)};
        KIT.row("by its props it stands, done in the fifth night", props, 56, 0, 0);
        x.tell(0, 3);
        x.decades(1, 60, 0);
        int[] stays = {x.count(10), x.count(4), x.act(0, 2), x.carver(0, 2)};
        KIT.row("all is as ahead", stays, 1, 0, 0, -1);
    }
}
