import java.util.NoSuchElementException;

/** Promises 15 to 28: told sessions, falls, clashes, plans, odds, breath, torches and decades. */
public final class AdviceTest {
    private static final Kit KIT = new Kit("AdviceTest");
    private static final int MIN = Integer.MIN_VALUE;
    private static final int MAX = Integer.MAX_VALUE;
    private static final String CREW = "carver a ayes skill 2; carver b noes skill 4;";

    public static void main(String[] args) {
        judged();
        falls();
        clashesAndMend();
        work();
        workOfMany();
        workOfTheHurt();
        workOfWhoCarved();
        places();
        placesLeftOver();
        thin();
        stands();
        propped();
        breath();
        look();
        rests();
        decades();
        KIT.finish();
    }

    private static void judged() {
        IceParliament x = Kit.with("spot s shade 0; spot d shade 9;" + CREW
            + "act p plain feet 6 chips 3 worth 5 by a; act q plain feet 9 chips 4 worth 7 by b; nights 3;");
        int[] none = {x.judged(0), x.judged(1), x.judged(2)};
        KIT.row("no session", none, -1, -1, 0);
        String text = "begin p s; carve b p; night; prop q; begin q d; carve b q; night; night; carve a p;";
        KIT.due("a session", Kit.session(x, text), 0);
        int[] all = {x.judged(0), x.judged(1), x.judged(2)};
        KIT.row("judged", all, 3, -1, 7);
        Kit.session(x, "begin p s; night; carve b p; night; night;");
        int[] bare = {x.judged(0), x.judged(1), x.judged(2)};
        KIT.row("bare behind the first night", bare, -1, 1, 0);
        Kit.session(x, "begin p s; carve b p; night; night; torch p; night;");
        int[] fallen = {x.judged(0), x.judged(1), x.judged(2)};
        KIT.row("fallen behind the second", fallen, 4, 3, 0);
        Kit.session(x, "begin p s; begin p d; begin q s; carve a p; carve a p; prop p; prop p; prop p; prop p; torch q;");
        KIT.due("the first of those that can't be", x.judged(0), 1);
        Kit.session(x, "begin p s; prop p; prop p; prop p; prop p;");
        KIT.due("a fourth prop can't be", x.judged(0), 4);
        Kit.session(x, "begin p s; carve a p; night; carve a p; carve b p; night;");
        KIT.due("the mover, who is not hurt yet; what is done can't be carved", x.judged(0), 4);
        x.begin(1, 0);
        x.night();
        KIT.due("from the begin, whatever is done by hand", x.judged(0), 4);
        KIT.due("judging does nothing by hand", x.count(4) + 10 * x.count(6), 1 + 10 * 2);
        for (int wrong : new int[] {-1, 3, MIN, MAX}) {
            KIT.due("judged(" + wrong + ")", x.judged(wrong), -2);
        }
    }

    private static void falls() {
        IceParliament x = Kit.with("spot s shade 0; spot d shade 3; spot e shade 2;" + CREW
            + "act p plain feet 20 chips 3 worth 5 by a; act q hollow feet 20 chips 4 worth 7 by b;"
            + "act r thin feet 20 chips 4 worth 7 by b; nights 3 2 1;");
        for (int act = 0; act < 3; act++) {
            KIT.due("not begun", x.falls(act), -1);
            x.begin(act, act);
        }
        KIT.due("20 by 3 2 1: 18 in nine nights, and one more", x.falls(0), 10);
        KIT.due("one foot a night", x.falls(1), 20);
        KIT.due("half of 1 is nothing: never", x.falls(2), -1);
        x.prop(1);
        KIT.due("propped it stays", x.falls(1), -1);
        x.night();
        KIT.due("17 by 2 1 3", x.falls(0), 9);
        x.prop(0);
        x.prop(0);
        KIT.due("17 by 1 of three nights, 40 at most", x.falls(0), -1);
        for (int i = 0; i < 3; i++) {
            x.torch(0);
        }
        KIT.due("14 by 0 0 1: the 42nd", x.falls(0), -1);
        x.night();
        x.torch(0);
        KIT.due("13 by 0 1 0: the 38th", x.falls(0), 38);
        for (int wrong : new int[] {-1, 3, MIN, MAX}) {
            KIT.due("falls(" + wrong + ")", x.falls(wrong), -1);
        }
        IceParliament y = Kit.with("spot s shade 0;" + CREW
            + "act p plain feet 10 chips 3 worth 5 by a; nights 0 0 0 1; ");
        y.begin(0, 0);
        KIT.due("the fortieth", y.falls(0), 40);
        y.undo();
        y.night();
        y.undo();
        KIT.due("it does not stand", y.falls(0), -1);
    }

    private static void clashesAndMend() {
        StringBuilder yard = new StringBuilder("carver a ayes skill 9; carver b ayes skill 9; carver c noes skill 9;"
            + "carver d ayes skill 9; carver e ayes skill 9; carver f noes skill 9; melts 0;");
        int[] worth = {5, 5, 9, 0, 1, 8};
        for (int i = 0; i < 6; i++) {
            yard.append("spot s").append((char) ('a' + i)).append(" shade 1;");
            yard.append("act p").append((char) ('a' + i)).append(" plain feet 9 chips 1 worth ").append(worth[i]).append(" by a;");
        }
        yard.append("clash pa pb; clash pc pb; clash pd pe; clash pf pe;");
        IceParliament x = Kit.with(yard.toString());
        KIT.due("nothing clashes yet", x.clashes(), 0);
        for (int i = 0; i < 6; i++) {
            x.begin(i, i);
        }
        KIT.due("not in force", x.clashes(), 0);
        int[] clashes = {0, 1, 2, 2, 3, 4};
        int[] cost = {0, 5, 5, 5, 5, 6};
        int[] sets = {0, 1, 2, 2, 10, 18};
        for (int i = 0; i < 6; i++) {
            x.carve(i, i);
            KIT.due("clashes of " + (i + 1), x.clashes(), clashes[i]);
            KIT.due("worth to let go of " + (i + 1), x.mend(0), cost[i]);
            KIT.due("the set to let go of " + (i + 1), x.mend(1), sets[i]);
        }
        for (int wrong : new int[] {-1, 2, MIN, MAX}) {
            KIT.due("mend(" + wrong + ")", x.mend(wrong), -1);
        }
    }

    private static void work() {
        IceParliament x = Kit.with("spot s shade 9; spot d shade 9; spot e shade 9;" + CREW
            + "act p plain feet 5 chips 6 worth 3 by a; act q plain feet 9 chips 4 worth 5 by b;"
            + "act r plain feet 9 chips 1 worth 99 by b;");
        int[] none = {x.work(1, 0), x.work(1, 1), x.work(1, 2)};
        KIT.row("nothing stands", none, 0, -1, -1);
        x.begin(0, 0);
        x.begin(1, 1);
        int[] one = {x.work(1, 0), x.work(1, 1), x.work(1, 2)};
        KIT.row("one night", one, 5, 0, 1);
        int[] two = {x.work(2, 0), x.work(2, 1), x.work(2, 2)};
        KIT.row("two nights", two, 8, 1, 0);
        int[] six = {x.work(6, 0), x.work(6, 1), x.work(6, 2)};
        KIT.row("six nights", six, 8, 0, 1);
        x.carve(1, 0);
        int[] tired = {x.work(1, 0), x.work(1, 1), x.work(1, 2)};
        KIT.row("b has carved tonight: 4 + 2 of p", tired, 3, 0, 0);
        int[] rested = {x.work(2, 0), x.work(2, 1), x.work(2, 2)};
        KIT.row("b carves the night behind", rested, 8, 0, 1);
        KIT.due("nothing is done by that", x.count(4) + x.act(0, 2), 4);
        for (int wrong : new int[] {0, 7, -1, MIN, MAX}) {
            KIT.due("work(" + wrong + ", 0)", x.work(wrong, 0), -2);
        }
        for (int wrong : new int[] {-1, 3, 7, MIN, MAX}) {
            KIT.due("work(1, " + wrong + ")", x.work(1, wrong), -2);
        }
        IceParliament y = Kit.with("spot s shade 9; spot d shade 0;" + CREW
            + "act p plain feet 9 chips 99 worth 3 by a; act q plain feet 3 chips 4 worth 5 by b; nights 3;");
        y.begin(0, 0);
        y.begin(1, 1);
        int[] melted = {y.work(1, 0), y.work(1, 1), y.work(1, 2)};
        KIT.row("q falls tonight: the first row of all", melted, 0, 0, 0);
        IceParliament z = Kit.with("spot s shade 9; carver a ayes skill 1; carver b noes skill 4;"
            + "act p plain feet 9 chips 8 worth 3 by a; carves able + 3 * (done = 1);");
        z.begin(0, 0);
        int[] law = {z.work(1, 0), z.work(1, 1), z.work(1, 2)};
        KIT.row("1, then 4 + 3 of the law", law, 3, 0, 0);
        IceParliament w = Kit.with("spot s shade 9; spot d shade 9; carver a ayes skill 0; carver b noes skill 3;"
            + "act p plain feet 9 chips 3 worth 3 by a; act q plain feet 9 chips 3 worth 3 by a; carves (able = 0) + (able = 3) * (done = 0) * 3;");
        w.begin(0, 0);
        w.begin(1, 1);
        int[] apart = {w.work(1, 0), w.work(1, 1), w.work(1, 2)};
        KIT.row("b brings one to its end where a has not been", apart, 3, 0, 1);
    }

    private static void workOfMany() {
        StringBuilder yard = new StringBuilder();
        for (int i = 0; i < 6; i++) {
            yard.append("spot s").append((char) ('a' + i)).append(" shade 9; carver c").append((char) ('a' + i))
                .append(" ayes skill 1;");
        }
        for (int i = 0; i < 6; i++) {
            yard.append("act p").append((char) ('a' + i)).append(" plain feet 9 chips 1 worth ").append(1 << i).append(" by ca;");
        }
        IceParliament x = Kit.with(yard.toString());
        for (int i = 0; i < 6; i++) {
            x.begin(i, i);
        }
        int[] six = new int[7];
        for (int what = 0; what < 7; what++) {
            six[what] = x.work(1, what);
        }
        KIT.row("the first four carvers", six, 60, 2, 3, 4, 5, -1, -1);
        KIT.due("a seventh", x.work(1, 7), -2);
        x.carve(5, 5);
        for (int what = 0; what < 7; what++) {
            six[what] = x.work(2, what);
        }
        KIT.row("one is done already", six, 62, 1, 2, 3, 4, -1, -1);
    }

    private static void workOfTheHurt() {
        StringBuilder yard = new StringBuilder("spot sun shade 0; spot deep shade 9; nights 3;");
        for (int i = 0; i < 6; i++) {
            yard.append("carver c").append((char) ('a' + i)).append(" ayes skill 1;");
        }
        yard.append("act p plain feet 3 chips 9 worth 1 by ca; act q plain feet 9 chips 4 worth 7 by cb;");
        IceParliament x = Kit.with(yard.toString());
        x.begin(0, 0);
        x.carve(0, 0);
        x.begin(1, 1);
        int[] before = new int[7];
        for (int what = 0; what < 7; what++) {
            before[what] = x.work(2, what);
        }
        KIT.row("ca carved p and is hurt by it tonight: three of one chip, two nights", before, 7, 0, 0, 1, 1, -1, -1);
        x.night();
        KIT.due("hurt", x.carver(0, 3), 1);
        for (int what = 0; what < 7; what++) {
            before[what] = x.work(1, what);
        }
        KIT.row("the first four who are not hurt", before, 7, -1, 1, 1, 1, 1, -1);
        IceParliament y = Kit.with(yard.toString().replace("chips 4", "chips 1"));
        y.begin(0, 0);
        y.carve(0, 0);
        y.begin(1, 1);
        for (int i = 1; i < 6; i++) {
            y.carve(i, 0);
        }
        KIT.due("nobody can carve tonight", y.work(1, 0), 0);
        KIT.due("tomorrow cb can", y.work(2, 0), 7);
        int[] row = {y.work(2, 1), y.work(2, 2), y.work(2, 3), y.work(2, 4)};
        KIT.row("ca can't: the last of the first row carves", row, 0, 0, 0, 1);
    }

    /** Who has carved tonight may carve the other act tomorrow, unless his own act falls on him. */
    private static void workOfWhoCarved() {
        String yard = "spot sun shade 0; spot deep shade 9; nights 3; carver a ayes skill 1; carver b noes skill 0;"
            + "act p plain feet 3 chips 9 worth 1 by a; act q plain feet 9 chips 1 worth 7 by a;";
        String[] yards = {yard, yard.replace("feet 3", "feet 2"), yard.replace("feet 3", "feet 4"),
            yard.replace("worth 1 by a", "worth 1 by b")};
        int[] worth = {0, 0, 7, 7};
        for (int i = 0; i < yards.length; i++) {
            IceParliament x = Kit.with(yards[i]);
            x.begin(0, 0);
            x.begin(1, 1);
            x.carve(0, 0);
            KIT.due("tonight nobody carves q in yard " + i, x.work(1, 0), 0);
            int[] two = {x.work(2, 0), x.work(2, 1), x.work(2, 2)};
            KIT.row("tomorrow in yard " + i, two, worth[i], worth[i] == 7 ? 1 : 0, 0);
            x.torch(0);
            x.torch(0);
            if (i < 2) {
                x.torch(0);
                int[] torched = {x.work(2, 0), x.work(2, 1), x.work(2, 2)};
                KIT.row("p was torched down: it falls on nobody in yard " + i, torched, 7, 1, 1);
            }
        }
    }

    private static void places() {
        IceParliament x = Kit.with("spot s shade 0; spot m shade 2; spot d shade 5;" + CREW
            + "act p plain feet 6 chips 8 worth 10 by a; act o old feet 3 chips 2 worth 20 by a; nights 3;");
        // p: 2, 6, 41 nights; o: 1, 3, 41 nights
        int[] two = {x.places(-1), x.places(0), x.places(1)};
        KIT.row("two acts, three spots", two, 47, 1, 2);
        x.begin(0, 2);
        int[] one = {x.places(-1), x.places(0), x.places(1)};
        KIT.row("p is begun", one, 3, -1, 1);
        x.begin(1, 0);
        int[] none = {x.places(-1), x.places(0), x.places(1)};
        KIT.row("all are begun", none, 0, -1, -1);
        for (int wrong : new int[] {-2, 2, 6, MIN, MAX}) {
            KIT.due("places(" + wrong + ")", x.places(wrong), -2);
        }
        IceParliament y = Kit.with("spot s shade 9; spot m shade 9; spot d shade 9;" + CREW
            + "act p plain feet 6 chips 8 worth 10 by a; act o old feet 3 chips 2 worth 20 by a;");
        int[] equal = {y.places(-1), y.places(0), y.places(1)};
        KIT.row("of equal ones the first row", equal, 82, 0, 1);
        IceParliament z = Kit.with("spot s shade 0;" + CREW + "act p plain feet 6 chips 8 worth 10 by a; nights 1 9;");
        KIT.due("from now on: 1, then 9", z.places(-1), 2);
        z.night();
        KIT.due("9 falls at once", z.places(-1), 1);
        KIT.due("nothing is begun by that", z.count(6), 0);
    }

    private static void placesLeftOver() {
        IceParliament x = Kit.with("spot s shade 0; spot d shade 9;" + CREW
            + "act p plain feet 1 chips 8 worth 10 by a; act q plain feet 20 chips 2 worth 20 by a;"
            + "act r plain feet 1 chips 2 worth 20 by a; nights 2;");
        // at s: 1, 10, 1 nights; at d: 41 each
        int[] three = {x.places(-1), x.places(0), x.places(1), x.places(2)};
        KIT.row("three acts, two spots", three, 51, 1, 0, -1);
        IceParliament y = Kit.with("spot s shade 0; spot d shade 0;" + CREW
            + "act p plain feet 1 chips 8 worth 10 by a; act q plain feet 4 chips 2 worth 20 by a;"
            + "act r plain feet 4 chips 2 worth 20 by a; nights 2;");
        int[] none = {y.places(-1), y.places(0), y.places(1), y.places(2)};
        KIT.row("the shortest is left out", none, 4, -1, 0, 1);
        KIT.due("no spot", Kit.with(CREW + "act p plain feet 1 chips 8 worth 10 by a;").places(-1), 0);
        KIT.due("no spot", Kit.with(CREW + "act p plain feet 1 chips 8 worth 10 by a;").places(0), -1);
    }

    private static void thin() {
        IceParliament x = Kit.with("spot s shade 0; spot d shade 5;" + CREW
            + "act p plain feet 6 chips 8 worth 10 by a; act h hollow feet 3 chips 2 worth 20 by a;"
            + "act t thin feet 6 chips 8 worth 10 by a; act o old feet 3 chips 2 worth 20 by a; nights 3 4;");
        KIT.due("3 and 4", x.thin(0, 0, 2), 8);
        KIT.due("4 and 5", x.thin(1, 0, 2), 10);
        KIT.due("1 and 2", x.thin(2, 0, 2), 4);
        KIT.due("an old one in the sun", x.thin(3, 0, 2), 8);
        KIT.due("an old one in the shade", x.thin(3, 1, 30), 1);
        KIT.due("39 in eleven nights", x.thin(0, 0, 11), 39);
        KIT.due("not by 40", x.thin(0, 0, 12), -1);
        KIT.due("hollow in the shade", x.thin(1, 1, 30), 31);
        x.begin(0, 0);
        x.prop(0);
        KIT.due("whatever stands there, without props", x.thin(0, 0, 2), 8);
        x.night();
        KIT.due("from now on", x.thin(0, 0, 1), 5);
        for (int i = 0; i < 6; i++) {
            x.torch(0);
        }
        KIT.due("fallen or not", x.thin(0, 0, 1), 5);
        for (int wrong : new int[] {-1, 4, MIN, MAX}) {
            KIT.due("act " + wrong, x.thin(wrong, 0, 1), -1);
        }
        for (int wrong : new int[] {-1, 2, MIN, MAX}) {
            KIT.due("spot " + wrong, x.thin(0, wrong, 1), -1);
        }
        for (int wrong : new int[] {0, 31, -1, MIN, MAX}) {
            KIT.due("nights " + wrong, x.thin(3, 1, wrong), -1);
        }
        IceParliament y = Kit.with("spot s shade 0;" + CREW
            + "act p plain feet 6 chips 8 worth 10 by a; melts (tall < 12) * 9 - (tall = 7) * 9;");
        KIT.due("the fewest, though more may not do", y.thin(0, 0, 3), 7);
        KIT.due("40 feet by a law", Kit.with("spot s shade 0;" + CREW
            + "act p plain feet 6 chips 8 worth 10 by a; melts (tall < 40) * 9;").thin(0, 0, 30), 40);
    }

    private static void stands() {
        String yard = "spot s shade 3;" + CREW + "act p plain feet 4 chips 8 worth 10 by a; nights 3;";
        IceParliament x = Kit.with(yard + "mild 3;");
        KIT.due("not begun", x.stands(0, 1), -1);
        x.begin(0, 0);
        // each mild night takes three feet: two of them fell it
        KIT.due("one night", x.stands(0, 1), 1000000);
        KIT.due("two nights: 1 - .09", x.stands(0, 2), 910000);
        KIT.due("three nights: .343 + .441", x.stands(0, 3), 784000);
        KIT.due("eight nights: .05764801 + .19765032, cut", x.stands(0, 8), 255298);
        x.prop(0);
        KIT.due("propped, two mild nights of two feet", x.stands(0, 2), 910000);
        x.torch(0);
        x.torch(0);
        KIT.due("one mild night", x.stands(0, 2), 490000);
        for (int wrong : new int[] {0, 9, -1, MIN, MAX}) {
            KIT.due("nights " + wrong, x.stands(0, wrong), -1);
        }
        for (int wrong : new int[] {-1, 1, MIN, MAX}) {
            KIT.due("act " + wrong, x.stands(wrong, 1), -1);
        }
        x.torch(0);
        x.torch(0);
        KIT.due("fallen", x.stands(0, 1), -1);
        for (int mild : new int[] {0, 10}) {
            IceParliament y = Kit.with(yard + "mild " + mild + ";");
            y.begin(0, 0);
            KIT.due("of ten nights " + mild, y.stands(0, 2), mild == 0 ? 1000000 : 0);
        }
        IceParliament z = Kit.with("spot s shade 0;" + CREW + "act p plain feet 4 chips 8 worth 10 by a; nights 9; mild 5;"
            + "melts (warmth = 12) * 9;");
        z.begin(0, 0);
        KIT.due("a warmth of 12", z.stands(0, 1), 500000);
        KIT.due("the night by hand is as told", z.night(), 0);
        IceParliament w = Kit.with(yard);
        w.begin(0, 0);
        KIT.due("none is mild", w.stands(0, 8), 1000000);
    }

    private static void propped() {
        IceParliament x = Kit.with("spot s shade 0; spot m shade 0; spot d shade 0; carver a ayes skill 9; carver b noes skill 9;"
            + "carver c noes skill 9; act p plain feet 6 chips 1 worth 10 by a; act q plain feet 6 chips 1 worth 20 by b;"
            + "act r plain feet 6 chips 1 worth 20 by c; nights 2;");
        KIT.due("nothing stands", x.propped(3), -1);
        x.begin(0, 0);
        x.begin(1, 1);
        x.begin(2, 2);
        KIT.due("nothing is in force", x.propped(3), -1);
        x.carve(0, 0);
        KIT.due("p", x.propped(3), 0);
        KIT.due("it stands without", x.propped(2), -1);
        KIT.due("it stands behind five", x.propped(5), 0);
        KIT.due("one is not enough for six", x.propped(6), -1);
        x.carve(2, 2);
        KIT.due("r is worth more", x.propped(3), 2);
        x.carve(1, 1);
        KIT.due("of equal ones the first", x.propped(3), 1);
        x.prop(1);
        KIT.due("q stands by its prop: r", x.propped(3), 2);
        KIT.due("a second prop for q, of equal ones none is first but it", x.propped(6), 1);
        KIT.due("nothing is propped by that", x.act(2, 5), 0);
        for (int wrong : new int[] {0, 31, -1, MIN, MAX}) {
            KIT.due("nights " + wrong, x.propped(wrong), -1);
        }
        IceParliament y = Kit.with("spot s shade 0; carver a ayes skill 9; act p plain feet 9 chips 1 worth 10 by a; nights 5;");
        y.begin(0, 0);
        y.carve(0, 0);
        y.prop(0);
        y.prop(0);
        KIT.due("the third", y.propped(3), 0);
        y.prop(0);
        KIT.due("three at most", y.propped(5), -1);
        IceParliament z = Kit.with("spot s shade 0; carver a ayes skill 9; act p plain feet 9 chips 1 worth 10 by a;"
            + "melts 1 + (tall = 8) * 8;");
        z.begin(0, 0);
        z.carve(0, 0);
        KIT.due("30 nights", z.propped(30), 0);
    }

    private static IceParliament breathed() {
        IceParliament x = Kit.with("spot s shade 0; spot m shade 2; spot d shade 9; carver a ayes skill 1; carver b noes skill 1;"
            + "carver c noes skill 1; carver e ayes skill 1; act p plain feet 5 chips 9 worth 10 by a;"
            + "act q plain feet 3 chips 9 worth 20 by b; act r plain feet 6 chips 9 worth 20 by c; nights 3;");
        x.begin(0, 0);
        x.begin(1, 1);
        x.begin(2, 2);
        x.carve(0, 0);
        x.carve(1, 0);
        x.carve(3, 1);
        return x;
    }

    private static void breath() {
        IceParliament x = breathed();
        int[] all = {x.sets(0), x.sets(1), x.sets(2), x.count(10)};
        KIT.row("nothing told: each who carved may have breathed", all, 8, 0, 11, 0);
        KIT.due("p has 5 - 3 - 1", x.tell(0, 1), true);
        int[] one = {x.sets(0), x.sets(1), x.sets(2), x.count(10)};
        KIT.row("a or b", one, 4, 0, 11, 1);
        KIT.due("in place of the elder", x.tell(0, 0), true);
        int[] both = {x.sets(0), x.sets(1), x.sets(2), x.count(10)};
        KIT.row("a and b", both, 2, 3, 11, 1);
        KIT.due("q has 3 - 1", x.tell(1, 2), true);
        int[] notE = {x.sets(0), x.sets(1), x.sets(2), x.count(10)};
        KIT.row("not e", notE, 1, 3, 3, 2);
        KIT.due("r is not breathed on", x.tell(2, 5), true);
        int[] none = {x.sets(0), x.sets(1), x.sets(2), x.count(10)};
        KIT.row("no set", none, 0, -1, -1, 3);
        KIT.due("none parts no sets", x.look(), -1);
        x.tell(2, 6);
        for (int i = 0; i < 5; i++) {
            x.torch(0);
        }
        int[] fell = {x.sets(0), x.sets(1), x.sets(2), x.count(10)};
        KIT.row("p fell: 0 whoever breathes", fell, 4, 0, 3, 3);
        KIT.due("it does not stand", x.tell(0, 0), false);
        x.night();
        int[] behind = {x.sets(0), x.sets(1), x.sets(2), x.count(10)};
        KIT.row("behind the night", behind, 1, 0, 0, 0);
        for (int wrong : new int[] {-1, 3, MIN, MAX}) {
            KIT.due("sets(" + wrong + ")", x.sets(wrong), -1);
            KIT.due("tell(" + wrong + ", 1)", x.tell(wrong, 1), false);
        }
        for (int wrong : new int[] {-1, 21, MIN, MAX}) {
            KIT.due("tell(1, " + wrong + ")", x.tell(1, wrong), false);
        }
        KIT.due("20 may be told", x.tell(1, 20), true);
        KIT.due("0 may be told", x.tell(2, 0), true);
        KIT.due("by what is told of two nothing is so", x.sets(0), 0);
        IceParliament y = Kit.with("spot s shade 0; carver a ayes skill 1; carver b noes skill 1;"
            + "act p plain feet 4 chips 9 worth 10 by a; nights 3;");
        KIT.due("not begun", y.tell(0, 1), false);
        y.begin(0, 0);
        y.carve(0, 0);
        y.carve(1, 0);
        y.tell(0, 0);
        int[] low = {y.sets(0), y.sets(1), y.sets(2)};
        KIT.row("4 - 3 - 1 or 2, 0 at least", low, 3, 0, 3);
    }

    private static void look() {
        IceParliament x = breathed();
        KIT.due("p parts 8 into 2, 4, 2, q into 4, 4: the first", x.look(), 0);
        x.tell(0, 1);
        KIT.due("q", x.look(), 1);
        x.tell(1, 1);
        KIT.due("r parts none", x.look(), -1);
        IceParliament y = Kit.with("spot s shade 9; spot m shade 9; carver a ayes skill 1; carver b noes skill 1;"
            + "carver c noes skill 1; act p plain feet 5 chips 9 worth 10 by a; act q plain feet 5 chips 9 worth 20 by b;");
        KIT.due("nothing stands", y.look(), -1);
        y.begin(0, 0);
        y.begin(1, 1);
        KIT.due("nobody carved", y.look(), -1);
        y.carve(0, 1);
        KIT.due("q parts 2 into 1, 1", y.look(), 1);
        y.carve(1, 0);
        KIT.due("both part 4 into 2, 2: the first", y.look(), 0);
        y.undo();
        y.carve(1, 1);
        y.carve(2, 1);
        KIT.due("q parts 8 into 1, 3, 3, 1", y.look(), 1);
        y.undo();
        y.carve(2, 0);
        KIT.due("q parts 8 into 2, 4, 2, p into 4, 4: the first", y.look(), 0);
    }

    private static int rests(int hold, int burn, int loses, int what) {
        try {
            return new IceParliament().rests(hold, burn, loses, what);
        } catch (NoSuchElementException e) {
            return -9;
        }
    }

    private static void rests() {
        int[] one = {rests(3, 5, 1, -1), rests(3, 5, 1, 0), rests(3, 5, 1, 1), rests(3, 5, 1, 2)};
        KIT.row("burning pays, both burning costs", one, 2, 1, 2, -9);
        int[] two = {rests(3, 5, 0, -1), rests(3, 5, 0, 0), rests(3, 5, 0, 1), rests(3, 5, 0, 2), rests(3, 5, 0, 3)};
        KIT.row("burning pays and costs nothing", two, 3, 1, 2, 3, -9);
        int[] three = {rests(5, 3, 2, -1), rests(5, 3, 2, 0), rests(5, 3, 2, 1)};
        KIT.row("holding pays", three, 1, 0, -9);
        int[] four = {rests(5, 3, 0, -1), rests(5, 3, 0, 0), rests(5, 3, 0, 1)};
        KIT.row("holding pays, burning costs nothing", four, 2, 0, 3);
        int[] five = {rests(4, 4, 9, -1), rests(4, 4, 9, 0), rests(4, 4, 9, 1), rests(4, 4, 9, 2), rests(4, 4, 9, 3)};
        KIT.row("all the same", five, 3, 0, 1, 2, -9);
        int[] six = {rests(0, 0, 0, -1), rests(0, 0, 0, 0), rests(0, 0, 0, 3), rests(0, 0, 0, 4)};
        KIT.row("nothing", six, 4, 0, 3, -9);
        for (int wrong : new int[] {-1, 10, MIN, MAX}) {
            KIT.due("hold " + wrong, rests(wrong, 1, 1, -1), -9);
            KIT.due("burn " + wrong, rests(1, wrong, 1, -1), -9);
            KIT.due("loses " + wrong, rests(1, 1, wrong, -1), -9);
        }
        for (int wrong : new int[] {-2, 4, MIN, MAX}) {
            KIT.due("what " + wrong, rests(0, 0, 0, wrong), -9);
        }
    }

    /** The draws by seed 1: g / 65536 is 16838, 5758, 10113, 17515, 31051, 5627, 23010, 7419, 16212, 4086, .. */
    private static void decades() {
        String yard = "spot s shade 9; carver a ayes skill 2; act p plain feet 5 chips 3 worth 7 by a;";
        IceParliament x = Kit.with(yard);
        KIT.due("one night: begun, 2 of 3 chips", x.decades(1, 1, 0), 0);
        KIT.due("two nights", x.decades(1, 2, 0), 7);
        KIT.due("five nights", x.decades(1, 5, 0), 28);
        int[] calm = {x.decades(1, 60, 0), x.decades(1, 60, 1), x.decades(1, 60, 2)};
        KIT.row("sixty nights", calm, 59 * 7, 0, 0);
        IceParliament y = Kit.with("spot s shade 6; carver a ayes skill 2; act p plain feet 5 chips 9 worth 7 by a; nights 6; mild 6;");
        // of each night four draws: below 1, 1, 1, then below 10: 17515 is 5 (mild: 3 feet), 7419 is 9 (as told)
        int[] first = {y.decades(1, 1, 0), y.decades(1, 1, 1), y.decades(1, 1, 2)};
        KIT.row("mild by 5 below 6, two feet are left", first, 0, 0, 0);
        int[] second = {y.decades(1, 2, 0), y.decades(1, 2, 1), y.decades(1, 2, 2)};
        KIT.row("7419: 9 is not below 6", second, 0, 0, 0);
        IceParliament z = Kit.with("spot s shade 6; carver a ayes skill 2; act p plain feet 3 chips 9 worth 7 by a; nights 6; mild 6;");
        int[] fell = {z.decades(1, 1, 0), z.decades(1, 1, 1), z.decades(1, 1, 2)};
        KIT.row("it falls on its mover", fell, 0, 1, 1);
        KIT.due("all is as ahead", z.count(4) + z.count(7) + z.carver(0, 3) + z.count(11), 0);
        z.begin(0, 0);
        z.torch(0);
        z.torch(0);
        z.torch(0);
        int[] later = {z.decades(1, 9, 0), z.decades(1, 9, 1), z.decades(1, 9, 2)};
        KIT.row("from now on: what fell by hand is not counted", later, 0, 0, 0);
        // acts: 16838 below 2 is 0, spots: 5758 below 3 is 1, carvers: 10113 below 2 is 1, 17515 below 2 is 1, then 31051
        IceParliament w = Kit.with("spot s shade 0; spot m shade 9; spot d shade 0; carver a ayes skill 9; carver b noes skill 9;"
            + "act p plain feet 3 chips 1 worth 7 by a; act q plain feet 3 chips 1 worth 50 by a; nights 3;");
        KIT.due("p is begun in the shade, q carved by nobody", w.decades(1, 1, 0) + 100 * w.decades(1, 1, 1), 0);
        w.begin(1, 0);
        w.prop(1);
        KIT.due("q is carved, by a who can", w.decades(1, 1, 0), 50);
        KIT.due("no acts: the draw of the night alone", Kit.with("spot s shade 1; carver a ayes skill 1;").decades(5, 60, 0), 0);
        KIT.due("no spots", Kit.with("carver a ayes skill 1; act p plain feet 3 chips 1 worth 7 by a;").decades(5, 60, 0), 0);
        for (int wrong : new int[] {-1, 10000, MIN, MAX}) {
            KIT.due("seed " + wrong, x.decades(wrong, 1, 0), -1);
        }
        for (int wrong : new int[] {0, 61, -1, MIN, MAX}) {
            KIT.due("nights " + wrong, x.decades(1, wrong, 0), -1);
        }
        for (int wrong : new int[] {-1, 3, MIN, MAX}) {
            KIT.due("what " + wrong, x.decades(1, 1, wrong), -1);
        }
        KIT.due("seed 0", x.decades(0, 2, 0), 7);
        KIT.due("seed 9999", x.decades(9999, 2, 0), 7);
    }
}
