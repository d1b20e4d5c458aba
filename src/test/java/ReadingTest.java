/** Promises 1 to 4: a new object, feed, yard, session, and every kind of FAULT. */
public final class ReadingTest {
    private static final Kit KIT = new Kit("ReadingTest");
    private static final String BASE = "spot aa shade 1; carver bb ayes skill 1; act cc plain feet 1 chips 1 worth 1 by bb;";

    public static void main(String[] args) {
        newObject();
        feeding();
        tokens();
        yardLines();
        names();
        clashes();
        onceOnly();
        tooMany();
        laws();
        nesting();
        yardTakesAllBack();
        sessions();
        KIT.finish();
    }

    private static void newObject() {
        IceParliament x = new IceParliament();
        int[] counts = new int[13];
        for (int i = 0; i < counts.length; i++) {
            counts[i] = x.count(i);
        }
        KIT.row("a new object's counts", counts, 0, 0, 0, 0, 0, 3, 0, 0, 0, 0, 0, 0, 0);
        KIT.due("its force", x.force(), 0);
        KIT.due("nothing to undo", x.undo(), false);
        KIT.due("no mark", x.mark(0, true), false);
        KIT.due("an empty tape is a yard", x.yard(), 0);
        KIT.due("an empty tape is a session", x.session(), 0);
    }

    private static void feeding() {
        IceParliament x = new IceParliament();
        KIT.due("no sign", x.feed(0, 0, 0), 0);
        KIT.due("others are left out", x.feed(0x7F1F0B0980FFC800L, 0x0A207E0D00000000L, -1L), 3);
        KIT.due("count(12)", x.count(12), 3);
        KIT.due("10 and 32 are blanks, 126 is none", x.yard(), 1 + 16 * 2);
        KIT.due("what reads the tape takes it", x.count(12), 0);
        KIT.due("the highest first, a before b before c", Kit.feed(x, "spot abc"), 8);
        KIT.due("gaps do not part", x.feed(0x6465000000000000L, 0x20736861646520L, 0x39003B0000000000L), 19);
        KIT.due("spot abcde shade 9;", x.yard(), 0);
        KIT.due("its shade shows in count(0)", x.count(0), 1);
        for (int i = 0; i < 41; i++) {
            x.feed(0x2020202020202020L, 0x2020202020202020L, 0x2020202020202020L);
        }
        KIT.due("984 signs", x.count(12), 984);
        KIT.due("1,000 at most", x.feed(0x2020202020202020L, 0x2020202020202020L, 0x2121212121212121L), 1000);
        KIT.due("what is beyond is left out", x.feed(-1, 0x2121212121212121L, 0), 1000);
        KIT.due("blanks alone are a yard", x.yard(), 0);
        KIT.due("which has no spot", x.count(0), 0);
    }

    private static void tokens() {
        KIT.due("no blank needed", Kit.fault("spot a shade 1;spot b shade 2;"), 0);
        KIT.due("a letter right behind a number", Kit.fault("melts 1and 2or dark;"), 0);
        KIT.due("a number right behind a word", Kit.fault("spot a shade1;"), 0);
        KIT.due("a line end is a blank", Kit.fault("spot\na\n\nshade 1\n;\n"), 0);
        KIT.due("8 letters", Kit.fault("spot abcdefgh shade 1;"), 0);
        KIT.due("9 letters", Kit.fault("spot abcdefghi shade 1;"), 1 + 16 * 5);
        KIT.due("4 digits", Kit.fault("spot a shade 0009;"), 0);
        KIT.due("5 digits", Kit.fault("spot a shade 00009;"), 1 + 16 * 13);
        KIT.due("5 digits in a law", Kit.fault("melts 10000;"), 1 + 16 * 6);
        KIT.due("4 digits in a law", Kit.fault("melts 9999;"), 0);
        KIT.due("a great letter", Kit.fault("Spot a shade 1;"), 1);
        KIT.due("another sign", Kit.fault("spot a, shade 1;"), 1 + 16 * 6);
        KIT.due("the end stands at the text's length", Kit.fault("spot a   "), 1 + 16 * 9);
        KIT.due("the first wrong token counts", Kit.fault("spot a shade 10; !"), 4 + 16 * 13);
    }

    private static void yardLines() {
        KIT.due("the base", Kit.fault(BASE), 0);
        String[] whole = {"spot a shade 0 ;", "carver a noes skill 9 ;", "nights 0 9 ;", "mild 10 ;", "melts 1 ;", "carves 1 ;"};
        for (String line : whole) {
            KIT.due(line, Kit.fault(line), 0);
            for (int at = line.lastIndexOf(' '); at > 0; at = line.lastIndexOf(' ', at - 1)) {
                String cut = line.substring(0, at);
                KIT.due("the end in " + cut, Kit.fault(cut), Kit.end(cut));
            }
        }
        String act = BASE + "act dd hollow feet 20 chips 99 worth 99 by bb ;";
        KIT.due(act, Kit.fault(act), 0);
        for (int at = act.lastIndexOf(' '); at > BASE.length(); at = act.lastIndexOf(' ', at - 1)) {
            String cut = act.substring(0, at);
            KIT.due("the end in " + cut, Kit.fault(cut), Kit.end(cut));
        }
        String[] fours = {"spot a shade 10", "carver a ayes skill 10", "mild 11", "nights 10", "nights 1 10"};
        for (String line : fours) {
            KIT.due(line, Kit.fault(line), 4 + 16 * (line.lastIndexOf(' ') + 1));
        }
        String[] actFours = {"feet 0", "feet 21", "feet 1 chips 0", "feet 1 chips 100", "feet 1 chips 1 worth 100"};
        for (String numbers : actFours) {
            String text = BASE + "act d old " + numbers;
            KIT.due(text, Kit.fault(text), 4 + 16 * (text.lastIndexOf(' ') + 1));
        }
        KIT.due("feet 1, chips 1, worth 0", Kit.fault(BASE + "act d thin feet 1 chips 1 worth 0 by bb;"), 0);
        KIT.due("a word that begins no line", Kit.fault("begin a b;"), 1);
        KIT.due("no side", Kit.fault("carver a plain"), 1 + 16 * 9);
        KIT.due("no kind", Kit.fault("act a ayes"), 1 + 16 * 6);
        KIT.due("a number for a word", Kit.fault("spot 1"), 1 + 16 * 5);
        KIT.due("a word for a number", Kit.fault("mild mild"), 1 + 16 * 5);
        KIT.due("no number of nights", Kit.fault("nights ;"), 1 + 16 * 7);
        KIT.due("a word among nights", Kit.fault("nights 1 mild"), 1 + 16 * 9);
        KIT.due("no ;", Kit.fault("mild 1 mild"), 1 + 16 * 7);
        KIT.due("a ; alone", Kit.fault(";"), 1);
        for (String line : whole) {
            KIT.due("another first letter: z" + line.substring(1), Kit.fault("z" + line.substring(1)), 1);
        }
    }

    private static void names() {
        String[] reserved = {"spot", "shade", "carver", "skill", "act", "feet", "chips", "worth", "by", "clash", "nights", "mild",
            "melts", "carves", "begin", "carve", "prop", "torch", "night", "ayes", "noes", "plain", "hollow", "thin", "old",
            "not", "and", "or"};
        for (String word : reserved) {
            KIT.due("a spot's name " + word, Kit.fault("spot " + word), 1 + 16 * 5);
            KIT.due("a name told, " + word, Kit.fault(BASE + "clash " + word), 1 + 16 * (BASE.length() + 6));
        }
        for (String word : new String[] {"warmth", "dark", "tall", "able", "done", "yard", "session", "spots", "o", "nigh"}) {
            KIT.due("a spot's name " + word, Kit.fault("spot " + word + " shade 1;"), 0);
        }
        for (String line : new String[] {"spot ", "carver ", "act "}) {
            for (String name : new String[] {"aa", "bb", "cc"}) {
                KIT.due(line + name + " told already", Kit.fault(BASE + line + name), 3 + 16 * (BASE.length() + line.length()));
            }
        }
        String by = BASE + "act dd plain feet 1 chips 1 worth 1 by ";
        KIT.due("by a spot", Kit.fault(by + "aa"), 2 + 16 * by.length());
        KIT.due("by an act", Kit.fault(by + "cc"), 2 + 16 * by.length());
        KIT.due("by itself", Kit.fault(by + "dd"), 2 + 16 * by.length());
        KIT.due("by nobody told", Kit.fault(by + "zz"), 2 + 16 * by.length());
        KIT.due("by a reserved word", Kit.fault(by + "by"), 1 + 16 * by.length());
        KIT.due("a carver told too late", Kit.fault("act a old feet 1 chips 1 worth 1 by b; carver b ayes skill 1;"),
            2 + 16 * 36);
    }

    private static void clashes() {
        String two = BASE + "act dd plain feet 1 chips 1 worth 1 by bb; act ee plain feet 1 chips 1 worth 1 by bb; clash ";
        int at = two.length();
        KIT.due("a clash", Kit.fault(two + "cc dd;"), 0);
        KIT.due("the first no act", Kit.fault(two + "aa dd;"), 2 + 16 * at);
        KIT.due("the second no act", Kit.fault(two + "cc bb;"), 2 + 16 * (at + 3));
        KIT.due("the same", Kit.fault(two + "cc cc;"), 3 + 16 * (at + 3));
        KIT.due("a pair told", Kit.fault(two + "cc dd; clash cc dd;"), 3 + 16 * (at + 16));
        KIT.due("a pair told the other way", Kit.fault(two + "cc dd; clash dd cc;"), 3 + 16 * (at + 16));
        KIT.due("other pairs", Kit.fault(two + "cc dd; clash ee cc; clash dd ee;"), 0);
        KIT.due("three names", Kit.fault(two + "cc dd ee;"), 1 + 16 * (at + 6));
        KIT.due("count(3)", Kit.with(two + "cc dd; clash ee cc; clash dd ee;").count(3), 3);
    }

    private static void onceOnly() {
        KIT.due("nights twice", Kit.fault("nights 1; nights 1;"), 3 + 16 * 10);
        KIT.due("mild twice", Kit.fault("mild 0; mild"), 3 + 16 * 8);
        KIT.due("melts twice", Kit.fault("melts 1; melts"), 3 + 16 * 9);
        KIT.due("carves twice", Kit.fault("carves 1; carves"), 3 + 16 * 10);
        KIT.due("once each", Kit.fault("carves 1; melts 1; mild 0; nights 0;"), 0);
        IceParliament x = new IceParliament();
        for (int i = 0; i < 2; i++) {
            KIT.due("again in the next yard", Kit.yard(x, "carves 1; melts 1; mild 0; nights 0;"), 0);
            KIT.due("a fault half way is forgotten", Kit.yard(x, "carves 1; melts 1; mild 0; nights 0; !"), 1 + 16 * 37);
        }
    }

    private static void tooMany() {
        StringBuilder spots = new StringBuilder();
        StringBuilder carvers = new StringBuilder();
        StringBuilder acts = new StringBuilder("carver m ayes skill 1;");
        for (char c = 'a'; c < 'g'; c++) {
            spots.append("spot ").append(c).append(" shade 1;");
            carvers.append("carver ").append(c).append(" noes skill 1;");
            acts.append("act ").append(c).append(" old feet 1 chips 1 worth 1 by m;");
        }
        KIT.due("six spots", Kit.with(spots.toString()).count(0), 6);
        KIT.due("six carvers", Kit.with(carvers.toString()).count(1), 6);
        KIT.due("six acts", Kit.with(acts.toString()).count(2), 6);
        KIT.due("a seventh spot, at its word", Kit.fault(spots + "spot !"), 5 + 16 * spots.length());
        KIT.due("a seventh carver", Kit.fault(carvers + "carver a"), 5 + 16 * carvers.length());
        KIT.due("a seventh act", Kit.fault(acts + "act"), 5 + 16 * acts.length());
        String nights = "nights 1 2 3 4 5 6 7 8 9 0 1 2 3 4";
        KIT.due("14 nights", Kit.fault(nights + ";"), 0);
        KIT.due("a 15th", Kit.fault(nights + " 5;"), 5 + 16 * 35);
        KIT.due("a 15th that is not as told either", Kit.fault(nights + " 10;"), 4 + 16 * 35);
        KIT.due("something else there", Kit.fault(nights + " mild"), 1 + 16 * 35);
    }

    private static void laws() {
        String[] whole = {"warmth", "dark", "tall", "7", "not 1", "(1)", "1+2", "1-2", "1*2", "1<2", "1=2", "1 and 2", "1 or 2",
            "1<2 and 3=4 or 5", "not(1<2)*3", "not not 1 - 2 * 3 + dark < tall"};
        for (String e : whole) {
            KIT.due("melts " + e, Kit.fault("melts " + e + ";"), 0);
        }
        for (String e : new String[] {"able", "tall", "done"}) {
            KIT.due("carves " + e, Kit.fault("carves " + e + ";"), 0);
        }
        KIT.due("no fact of melts", Kit.fault("melts able;"), 1 + 16 * 6);
        KIT.due("no fact of melts", Kit.fault("melts done;"), 1 + 16 * 6);
        KIT.due("no fact of carves", Kit.fault("carves warmth;"), 1 + 16 * 7);
        KIT.due("no fact of carves", Kit.fault("carves dark;"), 1 + 16 * 7);
        KIT.due("a name is no fact", Kit.fault("spot a shade 1; melts a;"), 1 + 16 * 22);
        KIT.due("a name that is spelled as a fact", Kit.fault("spot dark shade 1; melts dark;"), 0);
        KIT.due("nothing", Kit.fault("melts ;"), 1 + 16 * 6);
        KIT.due("two parts", Kit.fault("melts 1 2;"), 1 + 16 * 8);
        KIT.due("two joins", Kit.fault("melts 1 + + 2;"), 1 + 16 * 10);
        KIT.due("< of <", Kit.fault("melts 1 < 2 < 3;"), 1 + 16 * 12);
        KIT.due("= of <", Kit.fault("melts 1 < 2 + 3 = 3;"), 1 + 16 * 16);
        KIT.due("< of = in brackets", Kit.fault("melts (1 = 2) < 3;"), 0);
        KIT.due("< behind and", Kit.fault("melts 1 = 2 and 2 < 3 or 3 = 3;"), 0);
        KIT.due("not closed", Kit.fault("melts (1;"), 1 + 16 * 8);
        KIT.due("not closed, at the end", Kit.fault("melts (1"), 1 + 16 * 8);
        KIT.due("not opened", Kit.fault("melts 1);"), 1 + 16 * 7);
        KIT.due("empty brackets", Kit.fault("melts ();"), 1 + 16 * 7);
        KIT.due("not as a join", Kit.fault("melts 1 not 2;"), 1 + 16 * 8);
        KIT.due("- of one side", Kit.fault("melts - 1;"), 1 + 16 * 6);
        melting("not 1 + 1", 1);
        melting("not (0 + 0)", 1);
        melting("9 - 3 - 2", 4);
        melting("1 + 2 * 3", 7);
        melting("2 * 1 + 3", 5);
        melting("1 or 1 and 0", 0);
        melting("0 and 0 or 1", 1);
        melting("5 and 7", 1);
        melting("5 or 0", 1);
        melting("1 + 1 < 3", 1);
        melting("3 < 1 + 1", 0);
        melting("2 < 2", 0);
        melting("2 = 1 + 1", 1);
        melting("not 3 = 0", 1);
        melting("warmth * 2", 8);
        melting("dark + tall", 7);
        melting("tall - dark", 3);
        melting("5 - 9", 0);
        melting("99", 9);
        melting("9999 * 9999 < 0", 0);
        melting("9999 * 9999 * 30 < 0", 1);
        melting("((((7))))", 7);
        melting("1 < 2 and (0 or 3 = 4 - 1) and not not (2 * (1 + 3) - 8 = 0)", 1);
    }

    /** By how much a plain act of 5 feet at a shade of 2 melts in a night of 4. */
    private static void melting(String law, int want) {
        IceParliament x = Kit.with("nights 4; spot s shade 2; carver c ayes skill 0; act a plain feet 5 chips 1 worth 1 by c; melts "
            + law + ";");
        x.begin(0, 0);
        KIT.due("melts " + law, x.act(0, 8), want);
    }

    private static void nesting() {
        KIT.due("within 4 nots", Kit.fault("melts not not not not 1;"), 0);
        KIT.due("within 5 nots", Kit.fault("melts not not not not not 1;"), 5 + 16 * 26);
        KIT.due("the sixth not", Kit.fault("melts not not not not not not 1;"), 5 + 16 * 26);
        KIT.due("within 4 brackets", Kit.fault("melts ((((1))));"), 0);
        KIT.due("within 5 brackets", Kit.fault("melts (((((1)))));"), 5 + 16 * 11);
        KIT.due("the sixth bracket", Kit.fault("melts ((((((1))))));"), 5 + 16 * 11);
        KIT.due("a fact within 5", Kit.fault("melts not(not(not tall;"), 5 + 16 * 18);
        KIT.due("a wrong token within 5", Kit.fault("melts not(not(not ;"), 1 + 16 * 18);
        KIT.due("a name within 5", Kit.fault("melts not(not(not able;"), 1 + 16 * 18);
        KIT.due("beside one another they do not add up", Kit.fault("melts not not 1 + not not 1 * ((1)) < ((not not 1));"), 0);
        KIT.due("behind a bracket that is closed", Kit.fault("melts not(not(1) + not(1));"), 0);
        IceParliament x = new IceParliament();
        KIT.due("a fault within 4", Kit.yard(x, "melts not not not not;"), 1 + 16 * 21);
        KIT.due("is forgotten by the next yard", Kit.yard(x, "melts not not not not 1;"), 0);
        KIT.due("they add up from there on again", Kit.fault("melts not(not(1) + not(not 1));"), 5 + 16 * 27);
    }

    private static void yardTakesAllBack() {
        IceParliament x = Kit.with(BASE + "nights 1 2; mild 3;");
        Kit.session(x, "night;");
        x.begin(0, 0);
        x.tell(0, 1);
        x.mark(2, false);
        x.torch(0);
        Kit.feed(x, "spot zz shade 3; spot zz");
        KIT.due("a fault", x.yard(), 3 + 16 * 22);
        int[] kept = {x.count(0), x.count(1), x.count(4), x.count(5), x.count(7), x.count(9), x.count(10), x.count(11), x.count(12)};
        KIT.row("all stays then", kept, 1, 1, 0, 1, 1, 1, 1, 2, 0);
        KIT.due("the mark too", x.mark(2, true), true);
        x.night();
        KIT.due("a yard", Kit.yard(x, BASE), 0);
        int[] gone = {x.count(4), x.count(5), x.count(6), x.count(7), x.count(9), x.count(10), x.count(11)};
        KIT.row("all is new then", gone, 0, 3, 0, 0, 0, 0, 0);
        KIT.due("no mark", x.mark(2, true), false);
        KIT.due("feet as told", x.act(0, 1), 1);
        KIT.due("the act may be begun", x.begin(0, 0), true);
        KIT.due("an empty yard", x.yard(), 0);
        KIT.due("has no act", x.act(0, 0), -1);
    }

    private static void sessions() {
        IceParliament x = Kit.with(BASE);
        KIT.due("a session", Kit.session(x, "begin cc aa; carve bb cc; prop cc; torch cc; night;"), 0);
        KIT.due("its lines", x.count(9), 5);
        String[] whole = {"begin cc aa ;", "carve bb cc ;", "prop cc ;", "torch cc ;", "night ;"};
        for (String line : whole) {
            for (int at = line.lastIndexOf(' '); at > 0; at = line.lastIndexOf(' ', at - 1)) {
                String cut = line.substring(0, at);
                KIT.due("the end in " + cut, Kit.session(x, cut), Kit.end(cut));
            }
        }
        KIT.due("a fault leaves the session", x.count(9), 5);
        KIT.due("a fault takes the tape", x.count(12), 0);
        KIT.due("begin no act", Kit.session(x, "begin bb aa;"), 2 + 16 * 6);
        KIT.due("begin at no spot", Kit.session(x, "begin cc cc;"), 2 + 16 * 9);
        KIT.due("carve by no carver", Kit.session(x, "carve aa cc;"), 2 + 16 * 6);
        KIT.due("carve no act", Kit.session(x, "carve bb aa;"), 2 + 16 * 9);
        KIT.due("prop no act", Kit.session(x, "prop zz;"), 2 + 16 * 5);
        KIT.due("torch no act", Kit.session(x, "torch aa;"), 2 + 16 * 6);
        KIT.due("a reserved word", Kit.session(x, "torch by;"), 1 + 16 * 6);
        KIT.due("a yard's line", Kit.session(x, "spot zz shade 1;"), 1);
        KIT.due("a number behind night", Kit.session(x, "night 1;"), 1 + 16 * 6);
        String forty = "night;".repeat(40);
        KIT.due("40 lines", Kit.session(x, forty), 0);
        KIT.due("40 lines", x.count(9), 40);
        KIT.due("a 41st, at its first word", Kit.session(x, forty + "begin !"), 5 + 16 * 240);
        KIT.due("another word there", Kit.session(x, forty + "spot"), 1 + 16 * 240);
        KIT.due("a name there", Kit.session(x, forty + "cc"), 1 + 16 * 240);
        KIT.due("no lines", x.session(), 0);
        KIT.due("no lines", x.count(9), 0);
        IceParliament fresh = new IceParliament();
        KIT.due("nothing is told", Kit.session(fresh, "prop a;"), 2 + 16 * 5);
        KIT.due("nights can always be", Kit.session(fresh, "night; night;"), 0);
        KIT.due("two lines", fresh.count(9), 2);
        KIT.due("a session does nothing by hand", fresh.count(4), 0);
    }
}
