/** Promises 5 to 14, 29 and 30: what there is, what is done by hand, and what is undone. */
public final class ByHandTest {
    private static final Kit KIT = new Kit("ByHandTest");
    private static final int MIN = Integer.MIN_VALUE;
    private static final int MAX = Integer.MAX_VALUE;
    private static final String YARD =
        "spot sun shade 0; spot mid shade 4; spot deep shade 5;"
        + "carver ann ayes skill 4; carver bob noes skill 9; carver cid ayes skill 0;"
        + "act p plain feet 6 chips 8 worth 10 by ann; act h hollow feet 5 chips 9 worth 7 by bob;"
        + "act t thin feet 4 chips 1 worth 4 by cid; act o old feet 3 chips 2 worth 20 by ann;"
        + "clash p h; nights 5 2; mild 4;";

    public static void main(String[] args) {
        acts();
        carvers();
        forceAndSides();
        begin();
        carve();
        carvedByLaw();
        prop();
        torch();
        melting();
        night();
        hurt();
        undo();
        undoAndTold();
        marks();
        counts();
        KIT.finish();
    }

    private static int[] act(IceParliament x, int act) {
        int[] all = new int[9];
        for (int what = 0; what < all.length; what++) {
            all[what] = x.act(act, what);
        }
        return all;
    }

    private static int[] carver(IceParliament x, int carver) {
        int[] all = new int[4];
        for (int what = 0; what < all.length; what++) {
            all[what] = x.carver(carver, what);
        }
        return all;
    }

    private static void acts() {
        IceParliament x = Kit.with(YARD);
        KIT.row("a plain act", act(x, 0), 0, 6, 0, 8, -1, 0, 0, 0, 0);
        KIT.row("a hollow act", act(x, 1), 1, 5, 0, 4, -1, 0, 0, 0, 0);
        KIT.row("a thin act", act(x, 2), 2, 4, 0, 1, -1, 0, 0, 0, 0);
        KIT.row("an old act", act(x, 3), 3, 3, 0, 2, -1, 0, 0, 0, 0);
        x.begin(0, 1);
        x.prop(0);
        x.carve(1, 0);
        KIT.row("carved and propped", act(x, 0), 0, 6, 9, 8, 1, 1, 1, 0, 0);
        for (int i = 0; i < 6; i++) {
            x.torch(0);
        }
        KIT.row("fallen", act(x, 0), 0, 0, 9, 8, -1, 1, 0, 1, 0);
        for (int wrong : new int[] {-1, 4, 6, MIN, MAX}) {
            KIT.due("act " + wrong, x.act(wrong, 0), -1);
        }
        for (int wrong : new int[] {-1, 9, MIN, MAX}) {
            KIT.due("what " + wrong, x.act(0, wrong), -1);
        }
        IceParliament one = Kit.with("carver a ayes skill 1; act h hollow feet 1 chips 1 worth 1 by a;"
            + "act i hollow feet 1 chips 3 worth 1 by a; act j hollow feet 1 chips 99 worth 1 by a;");
        KIT.due("half of 1, 1 at least", one.act(0, 3), 1);
        KIT.due("half of 3, cut", one.act(1, 3), 1);
        KIT.due("half of 99, cut", one.act(2, 3), 49);
    }

    private static void carvers() {
        IceParliament x = Kit.with(YARD);
        KIT.row("ann", carver(x, 0), 0, 4, -1, 0);
        KIT.row("bob", carver(x, 1), 1, 9, -1, 0);
        x.begin(2, 0);
        x.carve(1, 2);
        KIT.row("bob who carved", carver(x, 1), 1, 9, 2, 0);
        x.night();
        KIT.row("bob behind the night", carver(x, 1), 1, 9, -1, 0);
        for (int wrong : new int[] {-1, 3, 6, MIN, MAX}) {
            KIT.due("carver " + wrong, x.carver(wrong, 0), -2);
        }
        for (int wrong : new int[] {-1, 4, MIN, MAX}) {
            KIT.due("what " + wrong, x.carver(0, wrong), -2);
        }
    }

    private static void forceAndSides() {
        IceParliament x = Kit.with(YARD);
        x.begin(0, 1);
        x.begin(1, 2);
        KIT.due("begun is not in force", x.force(), 0);
        x.carve(0, 0);
        x.carve(1, 1);
        KIT.due("the hollow one is", x.force(), 2);
        KIT.due("for the ayes", x.side(0), 0);
        KIT.due("for the noes", x.side(1), 7);
        x.night();
        x.carve(0, 0);
        KIT.due("both are", x.force(), 3);
        KIT.due("for the ayes", x.side(0), 10);
        KIT.due("worth", x.count(8), 17);
        for (int i = 0; i < 5; i++) {
            x.torch(1);
        }
        KIT.due("what fell is no more", x.force(), 1);
        KIT.due("for the noes", x.side(1), 0);
        for (int wrong : new int[] {-1, 2, MIN, MAX}) {
            KIT.due("side " + wrong, x.side(wrong), -1);
        }
    }

    private static void begin() {
        IceParliament x = Kit.with(YARD);
        for (int wrong : new int[] {-1, 4, MIN, MAX}) {
            KIT.due("act " + wrong, x.begin(wrong, 0), false);
        }
        for (int wrong : new int[] {-1, 3, MIN, MAX}) {
            KIT.due("spot " + wrong, x.begin(0, wrong), false);
        }
        KIT.due("what can't be is not undone", x.count(11), 0);
        KIT.due("begin", x.begin(0, 0), true);
        KIT.due("begun already", x.begin(0, 1), false);
        KIT.due("the spot is taken", x.begin(1, 0), false);
        KIT.due("another spot", x.begin(3, 2), true);
        KIT.due("they stand", x.count(6), 9);
        for (int i = 0; i < 3; i++) {
            x.torch(3);
        }
        KIT.due("a fallen one is never begun again", x.begin(3, 2), false);
        KIT.due("its spot is free", x.begin(1, 2), true);
        KIT.due("where it stands", x.act(1, 4), 2);
    }

    private static void carve() {
        IceParliament x = Kit.with(YARD);
        KIT.due("what does not stand", x.carve(0, 0), -1);
        x.begin(0, 1);
        x.begin(2, 2);
        for (int wrong : new int[] {-1, 3, MIN, MAX}) {
            KIT.due("carver " + wrong, x.carve(wrong, 0), -1);
        }
        for (int wrong : new int[] {-1, 4, MIN, MAX}) {
            KIT.due("act " + wrong, x.carve(0, wrong), -1);
        }
        KIT.due("ann", x.carve(0, 0), 4);
        KIT.due("ann again", x.carve(0, 0), -1);
        KIT.due("ann another one", x.carve(0, 2), -1);
        KIT.due("cid, who is not able", x.carve(2, 0), 4);
        KIT.due("he has carved", x.carver(2, 2), 0);
        KIT.due("bob", x.carve(1, 0), 13);
        x.night();
        KIT.due("what is done", x.carve(0, 0), -1);
        KIT.due("ann did not carve by that", x.carve(0, 2), 4);
    }

    private static void carvedByLaw() {
        IceParliament x = Kit.with("spot s shade 9; carver a ayes skill 7; carver b ayes skill 1; carver c noes skill 0;"
            + "act p plain feet 6 chips 99 worth 1 by a; carves able * 10 + tall - done * 2;");
        x.begin(0, 0);
        KIT.due("70 + 6", x.carve(0, 0), 76);
        KIT.due("10 + 6 - 152 is 0 at least", x.carve(1, 0), 76);
        IceParliament y = Kit.with("spot s shade 9; carver a ayes skill 7; carver b ayes skill 1;"
            + "act p plain feet 6 chips 99 worth 1 by a; carves (able = 1) * 98 + (able = 7) * 50;");
        y.begin(0, 0);
        KIT.due("50", y.carve(0, 0), 50);
        KIT.due("99 at most together", y.carve(1, 0), 99);
        KIT.due("done", y.force(), 1);
        IceParliament z = Kit.with("spot s shade 9; carver a ayes skill 7; act p plain feet 6 chips 99 worth 1 by a; carves 9999;");
        z.begin(0, 0);
        KIT.due("99 at most", z.carve(0, 0), 99);
    }

    private static void prop() {
        IceParliament x = Kit.with(YARD);
        KIT.due("what does not stand", x.prop(0), -1);
        x.begin(0, 0);
        KIT.due("melts by 5", x.act(0, 8), 5);
        KIT.due("one", x.prop(0), 1);
        KIT.due("two", x.prop(0), 2);
        KIT.due("three", x.prop(0), 3);
        KIT.due("three at most", x.prop(0), -1);
        KIT.due("melts by 2", x.act(0, 8), 2);
        for (int wrong : new int[] {-1, 4, MIN, MAX}) {
            KIT.due("act " + wrong, x.prop(wrong), -1);
        }
        x.night();
        KIT.due("they stay", x.act(0, 5), 3);
        KIT.due("0 at least", x.act(0, 8), 0);
    }

    private static void torch() {
        IceParliament x = Kit.with(YARD);
        KIT.due("what does not stand", x.torch(3), -1);
        x.begin(3, 0);
        x.carve(0, 3);
        KIT.due("two left", x.torch(3), 2);
        KIT.due("one left", x.torch(3), 1);
        KIT.due("in force", x.force(), 8);
        KIT.due("none left", x.torch(3), 0);
        KIT.due("fallen", x.count(7), 8);
        KIT.due("not in force", x.force(), 0);
        KIT.due("its mover is not hurt by that", x.carver(0, 3), 0);
        KIT.due("he carved it still", x.carver(0, 2), 3);
        KIT.due("again", x.torch(3), -1);
        for (int wrong : new int[] {-1, 4, MIN, MAX}) {
            KIT.due("act " + wrong, x.torch(wrong), -1);
        }
        KIT.due("the night fells none", x.night(), 0);
        KIT.due("nobody is hurt", x.carver(0, 3), 0);
    }

    private static void melting() {
        IceParliament x = Kit.with(YARD);
        int[][] want = {{5, 1, 0}, {6, 2, 1}, {2, 0, 0}, {5, 1, 0}};
        for (int act = 0; act < 4; act++) {
            for (int spot = 0; spot < 3; spot++) {
                x.begin(act, spot);
                KIT.due("act " + act + " at spot " + spot + " melts", x.act(act, 8), want[act][spot]);
                x.undo();
            }
        }
        x.night();
        x.begin(1, 0);
        KIT.due("the second night is colder", x.act(1, 8), 3);
        IceParliament y = Kit.with("spot s shade 4; spot d shade 5; carver c ayes skill 1;"
            + "act h hollow feet 9 chips 1 worth 1 by c; act t thin feet 9 chips 1 worth 1 by c;"
            + "act o old feet 9 chips 1 worth 1 by c; melts 50;");
        int[][] hot = {{10, 10}, {4, 4}, {9, 0}};
        for (int act = 0; act < 3; act++) {
            for (int spot = 0; spot < 2; spot++) {
                y.begin(act, spot);
                KIT.due("act " + act + " at spot " + spot + " melts by 9 at most", y.act(act, 8), hot[act][spot]);
                y.undo();
            }
        }
    }

    private static void night() {
        IceParliament x = Kit.with(YARD);
        KIT.due("none stands", x.night(), 0);
        x.undo();
        x.begin(0, 0);
        x.begin(1, 1);
        x.begin(2, 2);
        KIT.due("none falls", x.night(), 0);
        int[] feet = {x.act(0, 1), x.act(1, 1), x.act(2, 1), x.act(3, 1)};
        KIT.row("feet", feet, 1, 3, 4, 3);
        KIT.due("the next night", x.count(4), 1);
        KIT.due("its warmth", x.count(5), 2);
        KIT.due("one falls", x.night(), 1);
        KIT.due("feet, 0 at least", x.act(0, 1), 0);
        KIT.due("the first night's warmth again", x.count(5), 5);
        KIT.due("its spot is free", x.begin(3, 0), true);
        KIT.due("the hollow one has two feet left", x.act(1, 1), 2);
        KIT.due("two fall", x.night(), 2);
        KIT.due("three have fallen", x.count(7), 11);
        KIT.due("the thin one stands in the shade", x.act(2, 1), 4);
    }

    private static void hurt() {
        String yard = "spot s shade 0; spot d shade 9; carver a ayes skill 1; carver b noes skill 1;"
            + "act p plain feet 3 chips 9 worth 1 by a; act q plain feet 9 chips 9 worth 1 by a;";
        IceParliament x = Kit.with(yard);
        x.begin(0, 0);
        x.begin(1, 1);
        x.carve(1, 0);
        x.carve(0, 1);
        KIT.due("it falls", x.night(), 1);
        KIT.due("its mover carved another one", x.carver(0, 3), 0);
        KIT.due("who carved it did not move it", x.carver(1, 3), 0);
        IceParliament y = Kit.with(yard);
        y.begin(0, 0);
        y.begin(1, 1);
        y.carve(0, 0);
        KIT.due("it falls", y.night(), 1);
        KIT.due("on its mover", y.carver(0, 3), 1);
        KIT.due("he carves no more", y.carve(0, 1), -1);
        KIT.due("others do", y.carve(1, 1), 1);
        for (int i = 0; i < 3; i++) {
            y.night();
        }
        KIT.due("for good", y.carver(0, 3), 1);
        IceParliament z = Kit.with(yard.replace("feet 3", "feet 4"));
        z.begin(0, 0);
        z.carve(0, 0);
        z.night();
        KIT.due("it falls a night behind that", z.night(), 1);
        KIT.due("he had not carved it since the last night", z.carver(0, 3), 0);
    }

    private static void undo() {
        IceParliament x = Kit.with(YARD);
        x.begin(0, 0);
        x.carve(0, 0);
        x.prop(0);
        x.torch(0);
        x.night();
        KIT.due("five", x.count(11), 5);
        KIT.due("the night", x.undo(), true);
        int[] a = {x.count(4), x.act(0, 1), x.carver(0, 2)};
        KIT.row("ahead of the night", a, 0, 5, 0);
        x.undo();
        KIT.due("ahead of the torch", x.act(0, 1), 6);
        x.undo();
        KIT.due("ahead of the prop", x.act(0, 5), 0);
        x.undo();
        KIT.due("ahead of the carving", x.act(0, 2) + x.carver(0, 2), -1);
        x.undo();
        KIT.due("ahead of the begin", x.count(6), 0);
        KIT.due("nothing is left", x.undo(), false);
        for (int i = 0; i < 20; i++) {
            x.night();
        }
        KIT.due("16 at most", x.count(11), 16);
        for (int i = 0; i < 16; i++) {
            KIT.due("undo " + i, x.undo(), true);
        }
        KIT.due("no more than 16", x.undo(), false);
        KIT.due("the fourth night", x.count(4), 4);
        x.undo();
        x.night();
        KIT.due("and on", x.count(11), 1);
        IceParliament y = Kit.with("spot s shade 0; carver a ayes skill 1; act p plain feet 1 chips 9 worth 1 by a;");
        y.begin(0, 0);
        y.carve(0, 0);
        y.night();
        KIT.due("hurt", y.carver(0, 3), 1);
        y.undo();
        int[] b = {y.carver(0, 3), y.count(7), y.act(0, 4), y.act(0, 1)};
        KIT.row("healed", b, 0, 0, 0, 1);
    }

    private static void undoAndTold() {
        IceParliament x = Kit.with(YARD);
        x.begin(0, 0);
        x.tell(0, 3);
        x.prop(0);
        x.tell(0, 4);
        KIT.due("what is told is no step", x.count(11), 2);
        x.undo();
        x.carve(0, 0);
        KIT.due("told as ahead of the prop: 6 - 5 = 1 is not 3", x.sets(0), 0);
        x.tell(0, 1);
        KIT.due("told anew", x.sets(0), 1);
        x.night();
        KIT.due("nothing behind the night", x.count(10), 0);
        x.undo();
        KIT.due("told again", x.count(10), 1);
        KIT.due("the same", x.sets(0), 1);
        x.undo();
        x.undo();
        KIT.due("ahead of the begin nothing was told", x.count(10), 0);
    }

    private static void marks() {
        IceParliament x = Kit.with(YARD);
        for (int wrong : new int[] {-1, 4, 31, 32, 33, MIN, MAX}) {
            KIT.due("mark " + wrong, x.mark(wrong, false), false);
            KIT.due("mark " + wrong, x.mark(wrong, true), false);
        }
        for (int i = 0; i < 4; i++) {
            KIT.due("nothing on " + i, x.mark(i, true), false);
        }
        x.begin(1, 0);
        x.carve(1, 1);
        x.tell(1, 3);
        KIT.due("laid", x.mark(3, false), true);
        KIT.due("laying is no step", x.count(11), 2);
        x.night();
        x.night();
        KIT.due("laid", x.mark(0, false), true);
        KIT.due("four steps", x.count(11), 4);
        KIT.due("back", x.mark(3, true), true);
        int[] back = {x.count(4), x.count(6), x.count(7), x.count(10), x.count(11), x.carver(1, 2), x.act(1, 1), x.act(1, 2)};
        KIT.row("back at 3", back, 0, 2, 0, 1, 0, 1, 5, 9);
        KIT.due("nothing can be undone", x.undo(), false);
        x.torch(1);
        KIT.due("the mark is not changed by that", x.mark(3, true), true);
        KIT.due("feet", x.act(1, 1), 5);
        KIT.due("on", x.mark(0, true), true);
        KIT.due("two nights on it has fallen", x.count(7), 2);
        KIT.due("laid again", x.mark(3, false), true);
        x.undo();
        x.mark(3, true);
        KIT.due("the later one counts", x.count(4), 2);
        KIT.due("others have nothing", x.mark(1, true), false);
    }

    private static void counts() {
        IceParliament x = Kit.with(YARD);
        Kit.session(x, "night; night; night;");
        x.begin(2, 0);
        x.carve(1, 2);
        x.begin(3, 1);
        x.night();
        x.tell(3, 2);
        x.torch(3);
        x.torch(3);
        Kit.feed(x, "abc");
        int[] all = new int[13];
        for (int what = 0; what < all.length; what++) {
            all[what] = x.count(what);
        }
        KIT.row("counts", all, 3, 3, 4, 1, 1, 2, 4, 8, 4, 3, 1, 6, 3);
        for (int wrong : new int[] {-1, 13, MIN, MAX}) {
            KIT.due("count(" + wrong + ")", x.count(wrong), -1);
        }
    }
}
