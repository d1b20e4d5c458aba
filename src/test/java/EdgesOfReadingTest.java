/**
 * The boundaries that the Terms and promises 1 to 4 name: TAPE, TOKENS, YARD, SESSION, E and FAULTS. Of each
 * sentence the last that is in and the first that is out, on both sides; none told and all told; what wraps.
 */
public final class EdgesOfReadingTest {
    private static final Kit KIT = new Kit("EdgesOfReadingTest");
    private static final String BASE = "spot aa shade 1; carver bb ayes skill 1; act cc plain feet 1 chips 1 worth 1 by bb;";
    private static final String[] RESERVED = {"spot", "shade", "carver", "skill", "act", "feet", "chips", "worth", "by",
        "clash", "nights", "mild", "melts", "carves", "begin", "carve", "prop", "torch", "night", "ayes", "noes", "plain",
        "hollow", "thin", "old", "not", "and", "or"};
    /** The greatest int, as 99,980,001 * 21 + 47,903,626. */
    private static final String MOST_INT = "(9999*9999*21+9999*4790+8416)";

    public static void main(String[] args) {
        signsThatCome();
        orderOfSigns();
        fullTape();
        wordsAtTheEndOfAFullTape();
        emptyTape();
        takenTape();
        letters();
        digits();
        signs();
        blanks();
        longestTokens();
        numbersOfTheYard();
        whatNumbersCome();
        sixOfEach();
        fourteenNights();
        onceEach();
        namesThatAreNone();
        namesOfAnother();
        namesAlike();
        pairs();
        leastKind();
        firstToken();
        theEnd();
        faultLeavesAll();
        yardMakesAllNew();
        yardBehindYard();
        sessionChangesNoMore();
        fortyLines();
        nestedParts();
        mostOpen();
        longLaws();
        factsOfEach();
        soOrNot();
        intsWrap();
        lawsAreCut();
        withoutLaws();
        KIT.finish();
    }

    // ---- the TAPE

    /** "others than 10 and 32 .. 126 .. are left out": each byte, as the first of a and as the last of c. */
    private static void signsThatCome() {
        IceParliament first = new IceParliament();
        IceParliament last = new IceParliament();
        int come = 0;
        for (int sign = 0; sign < 256; sign++) {
            come += sign == 10 || sign >= 32 && sign <= 126 ? 1 : 0;
            KIT.due("first sign " + sign, first.feed((long) sign << 56, 0, 0), come);
            KIT.due("last sign " + sign, last.feed(0, 0, sign), come);
        }
        KIT.due("96 signs come", first.count(12), 96);
    }

    /** "the bytes of a, b, c, of each the highest first": another order has its second mild elsewhere. */
    private static void orderOfSigns() {
        IceParliament x = new IceParliament();
        KIT.due("24 signs", x.feed(Kit.eight("mild 7; ", 0), Kit.eight("nights 8", 0), Kit.eight(";mild 6;", 0)), 24);
        KIT.due("in their order", x.yard(), 3 + 16 * 17);
        KIT.due("none", x.feed(0, 0, 0), 0);
        KIT.due("signs with gaps", x.feed(0x006D00696C006400L, -1L, 0x0000000000000031L), 5);
        KIT.due("stand side by side", x.yard(), Kit.end("mild1"));
    }

    /** "at most 1,000 signs", "what is beyond 1,000 [is] left out". */
    private static void fullTape() {
        IceParliament x = new IceParliament();
        KIT.due("999 signs", Kit.feed(x, " ".repeat(999)), 999);
        KIT.due("what is left out takes no room", x.feed(0, -1L, 0x7F1F0B0900000000L), 999);
        KIT.due("of two signs one", x.feed(0x2121000000000000L, 0, 0), 1000);
        KIT.due("no more", x.feed(0x2121212121212121L, 0x2121212121212121L, 0x2121212121212121L), 1000);
        KIT.due("count(12)", x.count(12), 1000);
        KIT.due("the 1,000th sign stands", x.yard(), 1 + 16 * 999);
        KIT.due("1,000 blanks", Kit.feed(x, " ".repeat(1000)), 1000);
        KIT.due("a 1,001st", Kit.feed(x, "!"), 1000);
        KIT.due("is left out", x.yard(), 0);
        KIT.due("976", Kit.feed(x, " ".repeat(976)), 976);
        KIT.due("24 that fill it", Kit.feed(x, " ".repeat(23) + "!"), 1000);
        KIT.due("the last of them stands", x.yard(), 1 + 16 * 999);
        KIT.due("977", Kit.feed(x, " ".repeat(977)), 977);
        KIT.due("the 24th of 24 is beyond", Kit.feed(x, " ".repeat(23) + "!"), 1000);
        KIT.due("so it is left out", x.yard(), 0);
        KIT.due("a yard to the last sign", Kit.yard(x, " ".repeat(993) + "mild 1;"), 0);
        KIT.due("its ; is beyond: the end is at 1,000", Kit.yard(x, " ".repeat(994) + "mild 1;"), 1 + 16 * 1000);
        KIT.due("a session to the last sign", Kit.session(x, " ".repeat(994) + "night;"), 0);
        KIT.due("its ; is beyond", Kit.session(x, " ".repeat(995) + "night;"), 1 + 16 * 1000);
    }

    private static void wordsAtTheEndOfAFullTape() {
        KIT.due("a ninth letter that is beyond", Kit.fault(" ".repeat(987) + "spot abcdefghi"), 1 + 16 * 1000);
        KIT.due("a ninth letter that is in", Kit.fault(" ".repeat(986) + "spot abcdefghi"), 1 + 16 * 991);
        KIT.due("a fifth digit that is beyond", Kit.fault(" ".repeat(991) + "mild 00001"), 1 + 16 * 1000);
        KIT.due("a fifth digit that is in", Kit.fault(" ".repeat(990) + "mild 00001"), 1 + 16 * 995);
        KIT.due("a word that is cut by the end is another", Kit.fault(" ".repeat(997) + "mild"), 1 + 16 * 997);
        KIT.due("a sign", Kit.fault(" ".repeat(999) + ";"), 1 + 16 * 999);
    }

    private static void emptyTape() {
        IceParliament x = Kit.with(BASE);
        Kit.session(x, "night; night;");
        KIT.due("an empty session", x.session(), 0);
        KIT.due("has no line", x.count(9), 0);
        KIT.due("an empty yard", x.yard(), 0);
        int[] none = {x.count(0), x.count(1), x.count(2), x.count(3)};
        KIT.row("has nothing", none, 0, 0, 0, 0);
        KIT.due("blanks are an empty yard", Kit.yard(x, " \n "), 0);
        KIT.due("blanks are an empty session", Kit.session(x, "\n\n"), 0);
    }

    /** "what reads it takes it: it is empty then". */
    private static void takenTape() {
        IceParliament x = new IceParliament();
        String[] texts = {BASE, "spot !", "night;", "begin !"};
        for (int i = 0; i < texts.length; i++) {
            Kit.feed(x, texts[i]);
            KIT.due("signs of " + texts[i], x.count(12), texts[i].length());
            int fault = i < 2 ? x.yard() : x.session();
            KIT.due("fault of " + texts[i], fault == 0, i % 2 == 0);
            KIT.due("taken: " + texts[i], x.count(12), 0);
            KIT.due("the next text begins at 0", Kit.feed(x, " ; "), 3);
            KIT.due("the next text begins at 0", i < 2 ? x.session() : x.yard(), 1 + 16);
        }
        KIT.due("1,000 signs, taken", Kit.yard(x, ";".repeat(1000)), 1);
        KIT.due("make room for 1,000", Kit.feed(x, ";".repeat(1000)), 1000);
    }

    // ---- TOKENS

    /** "WORDS (letters a .. z, 8 at most)". */
    private static void letters() {
        for (char sign = 33; sign < 127; sign++) {
            if (sign < '0' || sign > '9') {
                boolean in = sign >= 'a' && sign <= 'z';
                KIT.due("a spot's name " + sign, Kit.fault("spot " + sign + " shade 1;"), in ? 0 : 1 + 16 * 5);
                KIT.due("in a spot's name " + sign, Kit.fault("spot a" + sign + "b shade 1;"), in ? 0 : 1 + 16 * 6);
            }
        }
        for (int length = 1; length <= 8; length++) {
            KIT.due(length + " letters", Kit.fault("spot " + "z".repeat(length) + " shade 1;"), 0);
        }
        for (int length : new int[] {9, 10, 16, 17, 100, 900}) {
            KIT.due(length + " letters", Kit.fault("spot " + "z".repeat(length) + " shade 1;"), 1 + 16 * 5);
            KIT.due(length + " letters begin a line", Kit.fault("z".repeat(length)), 1);
        }
        KIT.due("eight letters differ in the last", Kit.fault("spot aaaaaaaa shade 1; spot aaaaaaab shade 1;"), 0);
        KIT.due("eight letters differ in the first", Kit.fault("spot aaaaaaaa shade 1; spot baaaaaaa shade 1;"), 0);
        KIT.due("eight letters are alike", Kit.fault("spot aaaaaaaz shade 1; spot aaaaaaaz"), 3 + 16 * 28);
        KIT.due("seven and eight letters", Kit.fault("spot aaaaaaa shade 1; spot aaaaaaaa shade 1;"), 0);
        KIT.due("as long as can be", Kit.fault("spota shade 1;"), 1);
    }

    /** "NUMBERS (1 to 4 digits; a letter may stand right behind)". */
    private static void digits() {
        for (char sign = '0'; sign <= '9'; sign++) {
            KIT.due("digit " + sign, Kit.fault("spot a shade " + sign + ";"), 0);
        }
        KIT.due("the sign below 0", Kit.fault("spot a shade /;"), 1 + 16 * 13);
        KIT.due("the sign above 9", Kit.fault("spot a shade :;"), 1 + 16 * 13);
        KIT.due("the sign below 0 behind a digit", Kit.fault("spot a shade 1/;"), 1 + 16 * 14);
        KIT.due("the sign above 9 behind a digit", Kit.fault("spot a shade 1:;"), 1 + 16 * 14);
        for (String number : new String[] {"7", "07", "007", "0007"}) {
            KIT.due("mild " + number, Kit.fault("mild " + number + ";"), 0);
        }
        for (String number : new String[] {"00007", "000000", "99999", "4294967297", "18446744073709551617"}) {
            KIT.due("mild " + number, Kit.fault("mild " + number + ";"), 1 + 16 * 5);
            KIT.due("melts " + number, Kit.fault("melts " + number + ";"), 1 + 16 * 6);
        }
        KIT.due("9999 of a law", Kit.fault("melts 9999;"), 0);
        KIT.due("as long as can be: 11, not 1 and 1", Kit.fault("nights 11;"), 4 + 16 * 7);
        KIT.due("a letter right behind", Kit.fault("melts 1or 2;"), 0);
        KIT.due("a letter right behind four", Kit.fault("melts 9999or 2;"), 0);
        KIT.due("nine letters right behind", Kit.fault("melts 1abcdefghi;"), 1 + 16 * 7);
        KIT.due("a letter right behind five", Kit.fault("melts 12345or 2;"), 1 + 16 * 6);
        KIT.due("a digit right behind eight letters", Kit.fault("spot abcdefgh1"), 1 + 16 * 13);
        KIT.due("a digit right behind a word", Kit.fault("nights1 2;mild3;"), 0);
    }

    /** "the signs ( ) < = + - * ;  All else .. is none." */
    private static void signs() {
        for (char sign = 33; sign < 127; sign++) {
            boolean letter = sign >= 'a' && sign <= 'z';
            boolean digit = sign >= '0' && sign <= '9';
            boolean joins = "<=+-*".indexOf(sign) >= 0;
            if (!digit) {
                KIT.due("a line of " + sign, Kit.fault("" + sign), 1);
                KIT.due("1 " + sign + " 2", Kit.fault("melts 1 " + sign + " 2;"),
                    joins ? 0 : sign == ';' ? 1 + 16 * 10 : 1 + 16 * 8);
                KIT.due(sign + " 2", Kit.fault("melts " + sign + " 2;"), sign == '(' ? 1 + 16 * 9 : 1 + 16 * 6);
            }
            if (!digit && !letter) {
                KIT.due("1" + sign + "2", Kit.fault("melts 1" + sign + "2;"),
                    joins ? 0 : sign == ';' ? 1 + 16 * 8 : 1 + 16 * 7);
                KIT.due("mild 1" + sign, Kit.fault("mild 1" + sign), sign == ';' ? 0 : 1 + 16 * 6);
            }
        }
        KIT.due("< and = are two", Kit.fault("melts 1 <= 2;"), 1 + 16 * 9);
        KIT.due("; twice", Kit.fault("mild 1;;"), 1 + 16 * 7);
    }

    /** "blanks (10, 32) between where one likes". */
    private static void blanks() {
        String[] tokens = {"spot", "a", "shade", "1", ";", "melts", "(", "1", "+", "dark", ")", "*", "2", "<", "3", ";"};
        StringBuilder spaces = new StringBuilder("  ");
        StringBuilder lines = new StringBuilder("\n\n");
        for (String token : tokens) {
            spaces.append(token).append("   ");
            lines.append(token).append("\n");
        }
        KIT.due("spaces between all", Kit.fault(spaces.toString()), 0);
        KIT.due("line ends between all", Kit.fault(lines.toString()), 0);
        KIT.due("none where none is needed", Kit.fault("spot a shade 1;melts(1+dark)*2<3;"), 0);
        KIT.due("none within a word", Kit.fault("sp ot a shade 1;"), 1);
        KIT.due("none within a number", Kit.fault("mild 1 0;"), 1 + 16 * 7);
        KIT.due("what is left out parts nothing", Kit.yard(new IceParliament(), "mi\tld 1\r0;"), 0);
    }

    private static void longestTokens() {
        KIT.due("a word of 1,000 letters", Kit.fault("a".repeat(1000)), 1);
        KIT.due("a number of 1,000 digits", Kit.fault("1".repeat(1000)), 1);
        KIT.due("a name of 995 letters", Kit.fault("spot " + "a".repeat(995)), 1 + 16 * 5);
        KIT.due("a number of 995 digits", Kit.fault("mild " + "9".repeat(995)), 1 + 16 * 5);
        KIT.due("1,000 signs", Kit.fault("(".repeat(1000)), 1);
    }

    // ---- YARD

    /** "shade 0 to 9", "skill 0 to 9", "feet 1 to 20, chips 1 to 99, worth 0 to 99", "warmth 0 to 9", "0 to 10". */
    private static void numbersOfTheYard() {
        numbers("spot x shade ", 0, 9);
        numbers("carver x ayes skill ", 0, 9);
        numbers("carver x noes skill ", 0, 9);
        numbers(BASE + "act x plain feet ", 1, 20);
        numbers(BASE + "act x hollow feet 1 chips ", 1, 99);
        numbers(BASE + "act x old feet 20 chips 99 worth ", 0, 99);
        numbers("nights ", 0, 9);
        numbers("nights 9 ", 0, 9);
        numbers("nights 1 2 3 4 5 6 7 8 9 0 1 2 3 ", 0, 9);
        numbers("mild ", 0, 10);
    }

    private static void numbers(String text, int least, int most) {
        for (int n = 0; n <= most + 3; n++) {
            number(text, n, n >= least && n <= most);
        }
        for (int n : new int[] {100, 127, 128, 255, 256, 257, 1000, 9999}) {
            number(text, n, false);
        }
    }

    private static void number(String text, int n, boolean in) {
        KIT.due(text + n, Kit.fault(text + n), in ? Kit.end(text + n) : 4 + 16 * text.length());
        if (n < 1000) {
            KIT.due(text + "0" + n, Kit.fault(text + "0" + n), in ? Kit.end(text + "0" + n) : 4 + 16 * text.length());
        }
    }

    private static void whatNumbersCome() {
        for (int skill : new int[] {0, 9}) {
            IceParliament x = Kit.with("carver a noes skill " + skill + "; carver b ayes skill " + (9 - skill) + ";");
            int[] both = {x.carver(0, 0), x.carver(0, 1), x.carver(1, 0), x.carver(1, 1)};
            KIT.row("sides and skills", both, 1, skill, 0, 9 - skill);
        }
        String[] kinds = {"plain", "hollow", "thin", "old"};
        for (int kind = 0; kind < 4; kind++) {
            IceParliament x = Kit.with("spot s shade 9; melts 0; carves 99; carver a ayes skill 1; carver b noes skill 1; act p "
                + kinds[kind] + " feet 1 chips 1 worth 0 by b; spot d shade 9; act q " + kinds[3 - kind]
                + " feet 20 chips 99 worth 99 by a;");
            int[] least = {x.act(0, 0), x.act(0, 1), x.act(0, 3)};
            KIT.row("the least of " + kinds[kind], least, kind, 1, 1);
            int[] most = {x.act(1, 0), x.act(1, 1), x.act(1, 3)};
            KIT.row("the most of " + kinds[3 - kind], most, 3 - kind, 20, kind == 2 ? 49 : 99);
            x.begin(0, 0);
            x.begin(1, 1);
            x.carve(0, 0);
            int[] nothing = {x.side(0), x.side(1), x.count(8), x.force()};
            KIT.row("a worth of 0", nothing, 0, 0, 0, 1);
            x.carve(1, 1);
            int[] much = {x.side(0), x.side(1), x.count(8), x.force()};
            KIT.row("a worth of 99", much, 99, 0, 99, 3);
        }
    }

    private static String line(String word, char name) {
        if (word.equals("spot")) {
            return "spot " + name + " shade 1;";
        }
        return word.equals("carver") ? "carver " + name + " noes skill 1;"
            : "act " + name + " old feet 1 chips 1 worth 1 by m;";
    }

    /** "6 at most", "5 one too many: the words spot, carver, act of a seventh". */
    private static void sixOfEach() {
        String[] words = {"spot", "carver", "act"};
        for (int i = 0; i < 3; i++) {
            StringBuilder text = new StringBuilder(i == 2 ? "carver m ayes skill 1;" : "");
            for (int n = 1; n <= 6; n++) {
                text.append(line(words[i], (char) ('a' + n)));
                KIT.due(n + " of " + words[i], Kit.with(text.toString()).count(i), n);
            }
            String six = text.toString();
            String seventh = line(words[i], 'x');
            KIT.due("a seventh " + words[i], Kit.fault(six + seventh), 5 + 16 * six.length());
            KIT.due("a seventh, whatever is behind", Kit.fault(six + words[i] + " !"), 5 + 16 * six.length());
            KIT.due("a seventh, at its word and not at a name told", Kit.fault(six + words[i] + " b"), 5 + 16 * six.length());
            KIT.due("a seventh, at the end", Kit.fault(six + words[i]), 5 + 16 * six.length());
            KIT.due("the others go on", Kit.fault(six + line(words[(i + 1) % 3], 'x').replace("by m", "by b")), 0);
        }
        StringBuilder all = new StringBuilder();
        for (int n = 0; n < 18; n++) {
            all.append(line(words[n / 6], n == 6 ? 'm' : (char) (n < 6 ? 'a' + n : n < 12 ? 'g' + n - 7 : 'n' + n - 12)));
        }
        IceParliament x = Kit.with(all.toString());
        int[] counts = {x.count(0), x.count(1), x.count(2)};
        KIT.row("six of all three", counts, 6, 6, 6);
        KIT.due("the next yard may have six again", Kit.yard(x, all.toString()), 0);
    }

    /** "1 to 14, again and again (one of 3)", "a fifteenth NUMBER of nights". */
    private static void fourteenNights() {
        KIT.due("none", Kit.fault("nights;"), 1 + 16 * 6);
        KIT.due("none, at the end", Kit.fault("nights"), 1 + 16 * 6);
        StringBuilder text = new StringBuilder("nights");
        for (int n = 1; n <= 14; n++) {
            text.append(' ').append(n * 7 % 10);
            IceParliament x = Kit.with(text + ";");
            KIT.due("the first of " + n, x.count(5), 7);
            for (int night = 1; night <= n; night++) {
                x.night();
                KIT.due("night " + night + " of " + n, x.count(5), (night % n + 1) * 7 % 10);
            }
        }
        int place = text.length() + 1;
        KIT.due("a fifteenth", Kit.fault(text + " 0;"), 5 + 16 * place);
        KIT.due("a fifteenth of 9", Kit.fault(text + " 9"), 5 + 16 * place);
        KIT.due("a fifteenth of 10", Kit.fault(text + " 10"), 4 + 16 * place);
        KIT.due("a fifteenth of five digits", Kit.fault(text + " 00001"), 1 + 16 * place);
        KIT.due("the end there", Kit.fault(text + " "), 1 + 16 * place);
        KIT.due("a bracket there", Kit.fault(text + " ("), 1 + 16 * place);
        IceParliament x = new IceParliament();
        KIT.due("without: 3", x.count(5), 3);
        x.night();
        KIT.due("without: 3 again", x.count(5), 3);
        Kit.yard(x, "nights 5;");
        Kit.yard(x, "mild 1;");
        KIT.due("a yard without them behind one with", x.count(5), 3);
    }

    /** "nights, mild, melts, carves: once each", FAULT 3 "a second time". */
    private static void onceEach() {
        String[] lines = {"nights 0;", "mild 0;", "melts 0;", "carves 0;"};
        for (String line : lines) {
            String word = line.substring(0, line.indexOf(' '));
            KIT.due(line + " once", Kit.fault(line), 0);
            KIT.due(line + " twice", Kit.fault(line + line), 3 + 16 * line.length());
            KIT.due(line + " and its word", Kit.fault(line + word), 3 + 16 * line.length());
            KIT.due(line + " and its word, then none", Kit.fault(line + word + " !"), 3 + 16 * line.length());
            for (String other : lines) {
                if (!other.equals(line)) {
                    KIT.due(line + other, Kit.fault(line + other), 0);
                    KIT.due(line + other + line, Kit.fault(line + other + line), 3 + 16 * (line.length() + other.length()));
                }
            }
            IceParliament x = Kit.with(line);
            KIT.due(line + " in the next yard", Kit.yard(x, line), 0);
            KIT.due(line + " with a fault", Kit.yard(x, line + "!"), 1 + 16 * line.length());
            KIT.due(line + " behind a fault", Kit.yard(x, line), 0);
        }
    }

    // ---- NAMES

    /** "A NAME is another WORD than ..": each of them, wherever a NAME stands. */
    private static void namesThatAreNone() {
        String act = BASE + "act dd plain feet 1 chips 1 worth 1 by ";
        String[] yards = {"spot ", "carver ", BASE + "act ", act, BASE + "clash ", BASE + "clash cc "};
        String[] sessions = {"begin ", "begin cc ", "carve ", "carve bb ", "prop ", "torch "};
        IceParliament x = Kit.with(BASE);
        for (String word : RESERVED) {
            for (String text : yards) {
                KIT.due(text + word, Kit.fault(text + word), 1 + 16 * text.length());
            }
            for (String text : sessions) {
                KIT.due(text + word, Kit.session(x, text + word), 1 + 16 * text.length());
            }
            if (word.length() < 8) {
                KIT.due(word + "x is a name", Kit.fault("spot " + word + "x shade 1;"), 0);
                KIT.due("x" + word + " is a name", Kit.fault("spot x" + word + " shade 1;"), 0);
            }
        }
        for (String text : yards) {
            for (String other : new String[] {"1", ";", "(", "!", "abcdefghi", ""}) {
                KIT.due(text + other, Kit.fault(text + other), 1 + 16 * text.length());
            }
        }
        for (String word : new String[] {"warmth", "dark", "tall", "able", "done", "none", "a", "zzzzzzzz"}) {
            KIT.due(word + " is a name", Kit.fault("spot " + word + " shade 1;"), 0);
        }
        KIT.due("the word that begins no line of a yard", Kit.fault("night;"), 1);
        KIT.due("the word that begins no line of a session", Kit.session(new IceParliament(), "nights;"), 1);
    }

    /** FAULT 2: a NAME of no SPOT, of no CARVER, of no ACT told. */
    private static void namesOfAnother() {
        String act = BASE + "act dd plain feet 1 chips 1 worth 1 by ";
        String[] yards = {act, BASE + "clash ", BASE + "clash cc "};
        String[] yardNames = {"bb", "cc", "cc"};
        IceParliament x = Kit.with(BASE);
        String[] sessions = {"begin ", "begin cc ", "carve ", "carve bb ", "prop ", "torch "};
        String[] sessionNames = {"cc", "aa", "bb", "cc", "cc", "cc"};
        for (String name : new String[] {"aa", "bb", "cc", "zz", "a", "aaa"}) {
            for (int i = 0; i < yards.length; i++) {
                int due = !name.equals(yardNames[i]) ? 2 + 16 * yards[i].length()
                    : i == 2 ? 3 + 16 * yards[i].length() : Kit.end(yards[i] + name);
                KIT.due(yards[i] + name, Kit.fault(yards[i] + name), due);
            }
            for (int i = 0; i < sessions.length; i++) {
                int due = name.equals(sessionNames[i]) ? Kit.end(sessions[i] + name) : 2 + 16 * sessions[i].length();
                KIT.due(sessions[i] + name, Kit.session(x, sessions[i] + name), due);
            }
        }
        KIT.due("an act is told from its line on, not within it", Kit.fault(act + "bb; clash cc dd;"), 0);
        KIT.due("a clash ahead of its act", Kit.fault(BASE + "clash cc dd; act dd"), 2 + 16 * (BASE.length() + 9));
        KIT.due("all is taken back by an empty yard", x.yard(), 0);
        KIT.due("no act is told", Kit.session(x, "prop cc;"), 2 + 16 * 5);
        KIT.due("no carver is told", Kit.session(x, "carve bb cc;"), 2 + 16 * 6);
        KIT.due("what a yard with a fault tells is not told", Kit.yard(x, BASE + "!"), 1 + 16 * BASE.length());
        KIT.due("no act is told then", Kit.session(x, "begin cc aa;"), 2 + 16 * 6);
        Kit.yard(x, "spot s shade 1; carver m ayes skill 1; " + "act f plain feet 1 chips 1 worth 1 by m;");
        KIT.due("the first", Kit.session(x, "begin f s; carve m f;"), 0);
    }

    /** "no two (SPOTS, CARVERS, ACTS) are alike", FAULT 3 "a NAME told already". */
    private static void namesAlike() {
        StringBuilder all = new StringBuilder("carver m ayes skill 1;");
        for (char name = 'a'; name < 'g'; name++) {
            all.append(line("spot", name));
        }
        for (char name = 'n'; name < 's'; name++) {
            all.append(line("carver", name));
        }
        for (char name = 's'; name < 'w'; name++) {
            all.append(line("act", name));
        }
        for (char name : "abcdefmnopqrstuv".toCharArray()) {
            KIT.due("an act named " + name, Kit.fault(all + "act " + name), 3 + 16 * (all.length() + 4));
        }
        String five = all.toString().replace(line("spot", 'f'), "").replace(line("carver", 'r'), "");
        for (char name : "abcdemnopqstuv".toCharArray()) {
            KIT.due("a spot named " + name, Kit.fault(five + "spot " + name), 3 + 16 * (five.length() + 5));
            KIT.due("a carver named " + name, Kit.fault(five + "carver " + name), 3 + 16 * (five.length() + 7));
        }
        KIT.due("others are free", Kit.fault(five + line("spot", 'r') + line("carver", 'f') + line("act", 'z')), 0);
        IceParliament x = Kit.with(BASE);
        KIT.due("the next yard may have them again", Kit.yard(x, BASE), 0);
    }

    /** "two ACTS told, not the same, each pair once". */
    private static void pairs() {
        StringBuilder text = new StringBuilder("carver m ayes skill 1;");
        for (char name = 'a'; name < 'g'; name++) {
            text.append(line("act", name));
        }
        String acts = text.toString();
        for (char first = 'a'; first < 'g'; first++) {
            for (char second = 'a'; second < 'g'; second++) {
                String clash = "clash " + first + " " + second + ";";
                KIT.due(clash, Kit.fault(acts + clash), first == second ? 3 + 16 * (acts.length() + 8) : 0);
            }
        }
        int told = 0;
        for (char first = 'a'; first < 'g'; first++) {
            for (char second = 'a'; second < first; second++) {
                text.append("clash ").append(first).append(' ').append(second).append(';');
                told++;
                KIT.due(told + " pairs", Kit.with(text.toString()).count(3), told);
            }
        }
        KIT.due("all 15", told, 15);
        for (char first = 'a'; first < 'g'; first++) {
            for (char second = 'a'; second < 'g'; second++) {
                KIT.due("a sixteenth", Kit.fault(text + "clash " + first + " " + second), 3 + 16 * (text.length() + 8));
            }
        }
    }

    // ---- FAULTS

    /** "of the first token .. that is wrong the least [kind]". */
    private static void leastKind() {
        String nights = "nights 0 0 0 0 0 0 0 0 0 0 0 0 0 0 ";
        KIT.due("none and a fifteenth", Kit.fault(nights + "!"), 1 + 16 * 35);
        KIT.due("not as told and a fifteenth", Kit.fault(nights + "11"), 4 + 16 * 35);
        KIT.due("a fifteenth alone", Kit.fault(nights + "1"), 5 + 16 * 35);
        KIT.due("no act told, and so no pair", Kit.fault(BASE + "clash bb"), 2 + 16 * (BASE.length() + 6));
        KIT.due("the second no act", Kit.fault(BASE + "clash cc aa"), 2 + 16 * (BASE.length() + 9));
        KIT.due("no fact there and within 5", Kit.fault("melts ((not ((able"), 1 + 16 * 14);
        KIT.due("a name told and within 5", Kit.fault("spot zz shade 1; melts (((((zz"), 1 + 16 * 28);
        KIT.due("the end within 5", Kit.fault("melts ((((("), 1 + 16 * 11);
        KIT.due("none within 5", Kit.fault("melts (((((12345"), 1 + 16 * 11);
        KIT.due("a fact of melts within 5", Kit.fault("melts (((((tall"), 5 + 16 * 11);
        String forty = "night;".repeat(40);
        IceParliament x = Kit.with(BASE);
        KIT.due("no first word and a 41st line", Kit.session(x, forty + "clash"), 1 + 16 * 240);
        KIT.due("none and a 41st line", Kit.session(x, forty + "!"), 1 + 16 * 240);
        KIT.due("a 41st line alone", Kit.session(x, forty + "prop zz;"), 5 + 16 * 240);
    }

    /** "the first token from the left". */
    private static void firstToken() {
        KIT.due("4 ahead of 1", Kit.fault("mild 11 !"), 4 + 16 * 5);
        KIT.due("1 ahead of 4", Kit.fault("mild ! 11"), 1 + 16 * 5);
        KIT.due("3 ahead of 2", Kit.fault(BASE + "clash cc cc; clash zz"), 3 + 16 * (BASE.length() + 9));
        KIT.due("2 ahead of 3", Kit.fault(BASE + "clash zz; clash cc cc"), 2 + 16 * (BASE.length() + 6));
        KIT.due("5 ahead of 1", Kit.fault("melts not not not not not 1 !"), 5 + 16 * 26);
        KIT.due("1 ahead of 5", Kit.fault("melts not not not not ! not 1"), 1 + 16 * 22);
        KIT.due("3 ahead of 5", Kit.fault("mild 1; mild 1; melts (((((1)))));"), 3 + 16 * 8);
        KIT.due("a line ahead", Kit.fault("spot a shade 10; spot a"), 4 + 16 * 13);
        IceParliament x = Kit.with(BASE);
        KIT.due("2 ahead of 1", Kit.session(x, "begin zz !"), 2 + 16 * 6);
        KIT.due("1 ahead of 2", Kit.session(x, "begin ! zz"), 1 + 16 * 6);
    }

    /** "the end being one at the text's length". */
    private static void theEnd() {
        String[] yards = {"spot", "spot x", "spot x shade", "spot x shade 1", "carver", "carver x", "carver x ayes",
            "carver x ayes skill", "carver x ayes skill 1", BASE + "act", BASE + "act x", BASE + "act x old",
            BASE + "act x old feet", BASE + "act x old feet 1", BASE + "act x old feet 1 chips",
            BASE + "act x old feet 1 chips 1", BASE + "act x old feet 1 chips 1 worth",
            BASE + "act x old feet 1 chips 1 worth 1", BASE + "act x old feet 1 chips 1 worth 1 by",
            BASE + "act x old feet 1 chips 1 worth 1 by bb", BASE + "clash", BASE + "clash cc", "nights", "nights 1", "mild",
            "mild 1", "melts", "melts (", "melts not", "melts 1", "melts 1 +", "melts 1 -", "melts 1 *", "melts 1 <",
            "melts 1 =", "melts 1 and", "melts 1 or", "melts (1", "melts (1)", "carves", "carves able"};
        String[] sessions = {"begin", "begin cc", "begin cc aa", "carve", "carve bb", "carve bb cc", "prop", "prop cc",
            "torch", "torch cc", "night"};
        for (String blanks : new String[] {"", " ", "\n", "   \n\n"}) {
            for (String text : yards) {
                KIT.due("the end of " + text + blanks, Kit.fault(text + blanks), Kit.end(text + blanks));
            }
            for (String text : sessions) {
                KIT.due("the end of " + text + blanks, Kit.session(Kit.with(BASE), text + blanks), Kit.end(text + blanks));
            }
        }
    }

    // ---- what stays, and what is new

    private static final String TWO = "spot s shade 0; spot d shade 9; carver a ayes skill 4; carver b noes skill 4;"
        + "act p plain feet 9 chips 8 worth 5 by a; act q hollow feet 9 chips 8 worth 7 by b; clash p q; nights 2 4; mild 3;";

    /** Ten calls by hand, two MARKS, one TOLD, a SESSION of three lines. */
    private static int busy(IceParliament x) {
        Kit.yard(x, TWO);
        Kit.session(x, "begin p s; night; carve a q;");
        x.begin(1, 1);
        x.mark(0, false);
        x.carve(1, 1);
        x.night();
        x.begin(0, 0);
        x.carve(0, 0);
        x.prop(0);
        x.mark(3, false);
        x.tell(0, 4);
        return x.torch(1);
    }

    /** "0, or its FAULT (all stays then)": of a yard and of a session, each kind, at the first sign and at the last. */
    private static void faultLeavesAll() {
        String[] yards = {"!", "spot x shade 1; spot y shade", TWO + "clash p z", TWO + "spot s", TWO + "mild 1",
            "spot x shade 10", "melts not not not not not 1", TWO.replace("feet 9", "feet 3").replace("nights 2 4", "nights 5") + "!",
            "carver x noes skill 1; nights 7; mild 9; melts 9; carves 9; !"};
        int[] kinds = {1, 1, 2, 3, 3, 4, 5, 1, 1};
        for (int i = 0; i < yards.length; i++) {
            String text = yards[i];
            KIT.refused("kind of the fault of " + text, EdgesOfReadingTest::busy, x -> Kit.yard(x, text) % 16, kinds[i]);
        }
        String[] sessions = {"!", "night; night; nigh", "begin p z", "carve z p", "begin p s; carve a p; prop z", "torch a", "night 1",
            "night;".repeat(40) + "night;"};
        int[] others = {1, 1, 2, 2, 2, 2, 1, 5};
        for (int i = 0; i < sessions.length; i++) {
            String text = sessions[i];
            KIT.refused("kind of the fault of " + text, EdgesOfReadingTest::busy, x -> Kit.session(x, text) % 16, others[i]);
        }
    }

    /** "a YARD is the YARD from then on: night 0, no ACT is begun, nobody hurt, no SESSION, nothing TOLD, .." */
    private static void yardMakesAllNew() {
        IceParliament x = new IceParliament();
        Kit.yard(x, "spot s shade 0; carver a ayes skill 1; act p plain feet 3 chips 9 worth 5 by a; act q old feet 9 chips 1 worth 5 by a;");
        Kit.session(x, "night;");
        x.begin(0, 0);
        x.carve(0, 0);
        x.night();
        KIT.due("hurt", x.carver(0, 3), 1);
        KIT.due("fallen", x.count(7), 1);
        x.begin(1, 0);
        x.prop(1);
        x.tell(1, 3);
        x.mark(0, false);
        x.mark(1, false);
        x.mark(2, false);
        x.mark(3, false);
        KIT.due("the same yard", Kit.yard(x, TWO), 0);
        IceParliament y = Kit.with(TWO);
        KIT.due("is new in all", Kit.shot(x).equals(Kit.shot(y)), true);
        IceParliament z = new IceParliament();
        busy(z);
        KIT.due("a smaller yard", Kit.yard(z, BASE), 0);
        int[] out = {z.act(1, 0), z.carver(1, 0), z.thin(0, 1, 1), z.count(3), z.count(5), Kit.bit(z.begin(0, 1))};
        KIT.row("has no more than it tells", out, -1, -2, -1, 0, 3, 0);
        KIT.due("is new in all", Kit.shot(z).equals(Kit.shot(Kit.with(BASE))), true);
        IceParliament w = new IceParliament();
        busy(w);
        KIT.due("an empty yard", w.yard(), 0);
        KIT.due("is as a new object", Kit.shot(w).equals(Kit.shot(new IceParliament())), true);
    }

    /** "a YARD is the YARD from then on": nothing of the one before shows in any answer. */
    private static void yardBehindYard() {
        String people = "carver a ayes skill 4; carver b noes skill 3; carver c noes skill 2;";
        String[] yards = {
            "spot s shade 0; spot d shade 9; spot e shade 5;" + people + "act p old feet 20 chips 9 worth 9 by a; act q thin feet 9 chips 8"
                + " worth 7 by b; act r hollow feet 9 chips 9 worth 5 by c; clash p q; clash q r; nights 5 4 3 2; mild 10; melts warmth; carves 9;",
            "spot s shade 2;" + people + "act p plain feet 3 chips 9 worth 5 by b; act q plain feet 3 chips 9 worth 5 by b;",
            "spot d shade 9; spot s shade 0; carver a noes skill 9; act p plain feet 9 chips 1 worth 0 by a;",
            "spot d shade 9; spot s shade 0;" + people + "act p hollow feet 9 chips 5 worth 3 by c; act q old feet 8 chips 2 worth 4 by a; mild 5;",
            "nights 9; carver a ayes skill 9; act p thin feet 9 chips 1 worth 9 by a; act q plain feet 9 chips 1 worth 9 by a; clash q p;",
            people + "spot s shade 0; mild 3; carves 1;", ""};
        for (String first : yards) {
            for (String second : yards) {
                IceParliament x = Kit.with(first);
                lived(x);
                KIT.due("no fault", Kit.yard(x, second), 0);
                KIT.due(second + " behind " + first, lived(x).equals(lived(Kit.with(second))), true);
            }
        }
    }

    private static java.util.List<Integer> lived(IceParliament x) {
        java.util.List<Integer> all = new java.util.ArrayList<>();
        x.mark(3, false);
        for (int round = 0; round < 2; round++) {
            for (int i = -1; i < 4; i++) {
                all.addAll(java.util.Arrays.asList(x.act(i, 0), x.act(i, 3), x.act(i, 8), x.carver(i, 0), x.carver(i, 1), x.places(i),
                    x.work(3, i), x.thin(i, 0, 4), x.thin(i, 1, 2), x.falls(i), x.stands(i, 3), x.judged(i), x.mend(i), x.sets(i),
                    x.side(i), x.decades(5, 9, i), x.count(2 + i)));
            }
            all.addAll(java.util.Arrays.asList(x.count(5), x.clashes(), x.propped(2), x.look()));
            for (int i = 0; i < 3; i++) {
                all.add(Kit.bit(x.begin(i, i)));
                all.add(x.carve(i, i));
                all.add(Kit.bit(x.tell(i, 3)));
            }
        }
        all.add(Kit.session(x, "night; night;"));
        x.mark(3, true);
        all.add(x.places(-1));
        return all;
    }

    /** "A SESSION is the SESSION": nothing else is changed by it, and nothing but a YARD takes it away. */
    private static void sessionChangesNoMore() {
        IceParliament x = new IceParliament();
        busy(x);
        IceParliament y = new IceParliament();
        busy(y);
        KIT.due("another session", Kit.session(x, "night; begin q d;"), 0);
        KIT.due("and the elder one again", Kit.session(x, "begin p s; night; carve a q;"), 0);
        KIT.due("all is as it was", Kit.shot(x).equals(Kit.shot(y)), true);
        IceParliament z = new IceParliament();
        busy(z);
        z.undo();
        z.mark(0, true);
        z.night();
        KIT.due("neither undo nor a mark takes it away", z.count(9), 3);
    }

    /** "40 lines at most". */
    private static void fortyLines() {
        IceParliament x = Kit.with(BASE);
        for (int lines : new int[] {0, 1, 39, 40}) {
            KIT.due(lines + " lines", Kit.session(x, "night;".repeat(lines)), 0);
            KIT.due(lines + " lines are told", x.count(9), lines);
        }
        for (String word : new String[] {"begin", "carve", "prop", "torch", "night"}) {
            KIT.due("a 41st line of " + word, Kit.session(x, "night;".repeat(40) + word), 5 + 16 * 240);
        }
        KIT.due("41 lines leave the 40", x.count(9), 40);
        KIT.due("the 40th with a fault", Kit.session(x, "night;".repeat(39) + "prop zz;"), 2 + 16 * (39 * 6 + 5));
        KIT.due("40 lines of each kind", Kit.session(x, "begin cc aa;carve bb cc;prop cc;torch cc;night;".repeat(8)), 0);
        KIT.due("1 line", Kit.session(x, "prop cc;"), 0);
        KIT.due("takes the place of 40", x.count(9), 1);
    }

    // ---- E

    /** "no PART lies within 5 of not and ( )", "not, or a PART, within 5 others". */
    private static void nestedParts() {
        for (int open = 0; open <= 6; open++) {
            for (int which = 0; which < 1 << open; which++) {
                nested(open, which);
            }
        }
        KIT.due("beside one another they do not add up",
            Kit.fault("melts ((((1))))*((((1)))) + not not not not 1 < not(not(1)) - (not(not 1));"), 0);
        KIT.due("behind what is closed they begin again", Kit.fault("melts (((1)+(((1)))))"), 5 + 16 * 15);
        KIT.due("one less", Kit.fault("melts (((1)+((1))));"), 0);
        KIT.due("a right side within 4", Kit.fault("melts ((((1+1*1<1 or 1))));"), 0);
        KIT.due("carves too, within 4", Kit.fault("carves not(not(done));"), 0);
        KIT.due("carves too, within 5", Kit.fault("carves not(not(not done));"), 5 + 16 * 19);
        KIT.due("the law behind begins anew", Kit.fault("melts not not not not 1; carves not not not not 1;"), 0);
        KIT.due("a hundred brackets", Kit.fault("melts " + "(".repeat(100) + "1"), 5 + 16 * 11);
        KIT.due("a hundred nots", Kit.fault("melts " + "not ".repeat(100) + "1"), 5 + 16 * 26);
        KIT.due("a hundred brackets too many behind", Kit.fault("melts 1" + ")".repeat(100)), 1 + 16 * 7);
        KIT.due("one too many behind four", Kit.fault("melts ((((1)))));"), 1 + 16 * 15);
        KIT.due("one too few behind four", Kit.fault("melts ((((1)));"), 1 + 16 * 14);
    }

    /** Of which each bit is an opening, not or a bracket; a number, a fact, what can't stand there, and the end inside. */
    private static void nested(int open, int which) {
        StringBuilder head = new StringBuilder("melts ");
        StringBuilder tail = new StringBuilder();
        int sixth = 0;
        for (int i = 0; i < open; i++) {
            sixth = i == 5 ? head.length() : sixth;
            head.append((which >> i & 1) == 1 ? "not " : "(");
            tail.append((which >> i & 1) == 1 ? "" : ")");
        }
        for (String part : new String[] {"7", "tall", "dark", "warmth"}) {
            String text = head + part + tail + ";";
            int due = open < 5 ? 0 : 5 + 16 * (open == 5 ? head.length() : sixth);
            KIT.due(text, Kit.fault(text), due);
        }
        for (String wrong : new String[] {"able", "done", "zz", "!", ")", ";", "+", "", "12345", "abcdefghi", "and"}) {
            int due = open < 6 ? 1 + 16 * head.length() : 5 + 16 * sixth;
            KIT.due(head + wrong, Kit.fault(head + wrong), due);
        }
    }

    /** The most that can be open at once: each bracket the right side of or, <, + and *, and all comes out. */
    private static void mostOpen() {
        String text = "1";
        for (int i = 0; i < 4; i++) {
            text = "0 or 2 < 1 + 1 * (" + text + ")";
        }
        // inside out: 0 or 2 < 1 + 1 * 1 is 0, then 0 or 2 < 1 + 1 * 0 is 0
        KIT.due("0 to the end", melted(text, 3, 0, 3), 0);
        String times = "2";
        for (int i = 0; i < 4; i++) {
            times = "0 or 2 < 1 + 2 * (" + times + ")";
        }
        // 0 or 2 < 1 + 2 * 2 is 1, then 2 < 1 + 2 * 1 is 1
        KIT.due("1 to the end", melted(times, 3, 0, 3), 1);
        String chain = "3";
        for (int i = 0; i < 4; i++) {
            chain = "1 * 9 - 1 * (" + chain + ")";
        }
        // 9 - 3 is 6, 9 - 6 is 3, 6, 3
        KIT.due("from the left", melted(chain, 3, 0, 3), 3);
    }

    private static void longLaws() {
        String ones = "0" + "+0".repeat(440) + "+7";
        KIT.due("a sum of 442", melted(ones, 1, 0, 3), 7);
        String base = "spot s shade 0;";
        String law = base + "melts 1" + "-0".repeat((1000 - base.length() - 8) / 2);
        KIT.due("a law to the last sign but one", Kit.fault(law + ";"), 0);
        KIT.due("it has 999 or 1,000 signs", law.length() + 1 >= 999, true);
        KIT.due("a law of ands", melted("1" + " and 1".repeat(100), 1, 0, 3), 1);
        KIT.due("a law of products", melted("9" + "*1".repeat(300), 1, 0, 3), 9);
        IceParliament x = Kit.with(law + ";");
        KIT.due("a short law behind a long one", Kit.yard(x, "spot s shade 0; carver m ayes skill 1;"
            + "act p plain feet 9 chips 1 worth 1 by m; melts 4;"), 0);
        x.begin(0, 0);
        KIT.due("counts alone", x.act(0, 8), 4);
    }

    /** By how much a plain ACT melts by a law, of so many feet, at such a shade, in a night of such warmth. */
    private static int melted(String law, int feet, int shade, int warmth) {
        IceParliament x = Kit.with("nights " + warmth + "; spot s shade " + shade + "; carver m ayes skill 0; act p plain feet "
            + feet + " chips 1 worth 1 by m; melts " + law + ";");
        x.begin(0, 0);
        return x.act(0, 8);
    }

    /** How many chips a CARVE brings by a law, of an ACT of so many feet that has some already. */
    private static int carved(String law, int skill, int feet) {
        IceParliament x = Kit.with("spot s shade 0; carver m ayes skill " + skill + "; act p plain feet " + feet
            + " chips 99 worth 1 by m; carves " + law + ";");
        x.begin(0, 0);
        return x.carve(0, 0);
    }

    /** "Facts: of melts warmth, dark, tall; of carves able, tall, done." */
    private static void factsOfEach() {
        for (int n = 0; n <= 9; n++) {
            KIT.due("warmth " + n, melted("warmth", 20, 9 - n, n), n);
            KIT.due("dark " + n, melted("dark", 20, n, 9 - n), n);
            KIT.due("able " + n, carved("able", n, 20), n);
        }
        for (int n = 1; n <= 20; n++) {
            KIT.due("tall " + n, melted("(tall = " + n + ") * 5 + (tall < " + n + ") * 9", n, 0, 3), 5);
            KIT.due("tall of carves " + n, carved("tall", 5, n), n);
        }
        String[] melts = {"warmth", "dark", "tall"};
        String[] carves = {"able", "tall", "done"};
        for (String fact : melts) {
            KIT.due("melts " + fact, Kit.fault("melts " + fact + ";"), 0);
            KIT.due("carves " + fact, Kit.fault("carves " + fact + ";"), fact.equals("tall") ? 0 : 1 + 16 * 7);
        }
        for (String fact : carves) {
            KIT.due("carves " + fact, Kit.fault("carves " + fact + ";"), 0);
            KIT.due("melts " + fact, Kit.fault("melts " + fact + ";"), fact.equals("tall") ? 0 : 1 + 16 * 6);
        }
        IceParliament x = Kit.with("spot s shade 0; carver m ayes skill 5; carver n ayes skill 5; carver o ayes skill 5;"
            + "act p plain feet 9 chips 99 worth 1 by m; carves done + 5;");
        x.begin(0, 0);
        KIT.due("done 0", x.carve(0, 0), 5);
        KIT.due("done 5", x.carve(1, 0), 15);
        KIT.due("done 15", x.carve(2, 0), 35);
        IceParliament y = Kit.with("nights 7; spot s shade 0; carver m ayes skill 5; act p plain feet 9 chips 9 worth 1 by m;"
            + "melts (tall = 9) * 2 + (tall = 7) * 3; carves (tall = 7) * 4;");
        y.begin(0, 0);
        y.night();
        KIT.due("tall is what stands now", y.act(0, 8), 3);
        KIT.due("for carves too", y.carve(0, 0), 4);
    }

    /** "Of not, and, or, < and = comes 1 or 0; what is not 0 is so". */
    private static void soOrNot() {
        String[] values = {"(0-2)", "(0-1)", "0", "1", "2", "9999"};
        for (int i = 0; i < values.length; i++) {
            boolean left = i != 2;
            KIT.due("not " + values[i], melted("not " + values[i], 3, 0, 3), left ? 0 : 1);
            KIT.due("not not " + values[i], melted("not not " + values[i], 3, 0, 3), left ? 1 : 0);
            for (int j = 0; j < values.length; j++) {
                boolean right = j != 2;
                KIT.due(values[i] + " and " + values[j], melted(values[i] + " and " + values[j], 3, 0, 3), left && right ? 1 : 0);
                KIT.due(values[i] + " or " + values[j], melted(values[i] + " or " + values[j], 3, 0, 3), left || right ? 1 : 0);
                KIT.due(values[i] + " < " + values[j], melted(values[i] + " < " + values[j], 3, 0, 3), i < j ? 1 : 0);
                KIT.due(values[i] + " = " + values[j], melted(values[i] + " = " + values[j], 3, 0, 3), i == j ? 1 : 0);
            }
        }
        for (String none : new String[] {"0 or 0", "0 and 0", "0 and 1", "1 and 0", "2 < 1", "1 < 1", "1 = 2", "not 1"}) {
            KIT.due("0 comes of " + none, melted("5 + (" + none + ")", 9, 0, 3), 5);
            KIT.due("0 comes of " + none, carved("(" + none + ") + 5", 9, 3), 5);
        }
        for (String so : new String[] {"3 or 0", "0 or 3", "3 or 3", "3 and 2", "1 < 2", "2 = 2", "not 0"}) {
            KIT.due("1 comes of " + so, melted("5 + (" + so + ")", 9, 0, 3), 6);
            KIT.due("1 comes of " + so, carved("(" + so + ") + 5", 9, 3), 6);
        }
        KIT.due("from the left: (1 or 1) and 0", melted("1 or 1 and 0", 3, 0, 3), 0);
        KIT.due("from the left: (0 and 0) or 1", melted("0 and 0 or 1", 3, 0, 3), 1);
        KIT.due("from the left: 9 - 4 - 3", melted("9 - 4 - 3", 3, 0, 3), 2);
        KIT.due("from the left: 9 - 4 + 3", melted("9 - 4 + 3", 3, 0, 3), 8);
        KIT.due("not of a part alone", melted("not 0 * 5", 3, 0, 3), 5);
        KIT.due("not of a test in brackets", melted("not (0 * 5 = 0)", 3, 0, 3), 0);
    }

    /** "ints wrap". */
    private static void intsWrap() {
        String least = "(0-" + MOST_INT + "-1)";
        String[] so = {"0 < " + MOST_INT, MOST_INT + " + 1 < 0", MOST_INT + " + 1 = " + least, least + " < 0", "0 < " + least + " - 1",
            least + " - 1 = " + MOST_INT, least + " * (0-1) = " + least, MOST_INT + " * 2 = 0 - 2", MOST_INT + " * " + MOST_INT + " = 1",
            least + " * 2 = 0", "0 < 256*256*256*127", "256*256*256*128 < 0", "256*256*256*128 = " + least,
            "256*256*256*255 = 0 - 256*256*256", "0 - " + least + " = " + least, least + " < " + MOST_INT,
            "0 - 1 - " + least + " = " + MOST_INT, MOST_INT + " - " + least + " = 0 - 1", "not (" + MOST_INT + " < " + least + ")"};
        for (String law : so) {
            KIT.due(law, melted(law, 3, 0, 3), 1);
        }
        KIT.due("256 to the fourth is 0", melted("256*256*256*256 + 3", 3, 0, 3), 3);
        KIT.due("what wraps to 0 is not so", melted("256*256*256*256 or 0", 3, 0, 3), 0);
        KIT.due("what wraps to below 0 is 0 feet", melted(MOST_INT + " + 1", 3, 0, 3), 0);
        KIT.due("what wraps to above 0 is 9 feet", melted(least + " - 1", 3, 0, 3), 9);
        KIT.due("the greatest less the least", carved(MOST_INT + " - " + least + " + 6", 3, 3), 5);
        KIT.due("carves wraps to below 0", carved(MOST_INT + " + able", 1, 3), 0);
        KIT.due("carves wraps to above 0", carved(least + " - able", 1, 3), 99);
        KIT.due("a product of a fact wraps to 0", carved("tall * 256 * 256 * 256 * 16 + 1", 1, 16), 1);
        KIT.due("a product of a fact wraps to the least", carved("tall * 256 * 256 * 256 * 16 - 1", 1, 8), 99);
    }

    /** "MELTS by the E of melts (0 to 9)", "more by the E of carves (0 to 99)". */
    private static void lawsAreCut() {
        int[] law = {-9999, -10, -1, 0, 1, 8, 9, 10, 11, 98, 99, 100, 101, 9999};
        for (int n : law) {
            String text = n < 0 ? "0 - " + -n : "" + n;
            KIT.due("melts " + text, melted(text, 3, 0, 3), Math.max(0, Math.min(9, n)));
            KIT.due("carves " + text, carved(text, 3, 3), Math.max(0, Math.min(99, n)));
        }
        KIT.due("the greatest melts", melted(MOST_INT, 3, 0, 3), 9);
        KIT.due("the least melts", melted("0 - " + MOST_INT + " - 1", 3, 0, 3), 0);
        KIT.due("the greatest carves", carved(MOST_INT, 3, 3), 99);
        KIT.due("the least carves", carved("0 - " + MOST_INT + " - 1", 3, 3), 0);
    }

    /** "Without melts: warmth - dark; without carves: able." */
    private static void withoutLaws() {
        for (int warmth : new int[] {0, 1, 4, 5, 9}) {
            for (int shade : new int[] {0, 1, 4, 5, 9}) {
                IceParliament x = Kit.with("nights " + warmth + "; spot s shade " + shade + "; carver m ayes skill " + shade
                    + "; act p plain feet 20 chips 20 worth 1 by m;");
                x.begin(0, 0);
                KIT.due(warmth + " - " + shade, x.act(0, 8), Math.max(0, warmth - shade));
                KIT.due("able " + shade, x.carve(0, 0), shade);
            }
        }
        IceParliament x = Kit.with("melts 0; carves 0;");
        Kit.yard(x, "nights 5; spot s shade 1; carver m ayes skill 6; act p plain feet 20 chips 20 worth 1 by m;");
        x.begin(0, 0);
        KIT.due("the law of the yard before is gone", x.act(0, 8), 4);
        KIT.due("both are", x.carve(0, 0), 6);
    }
}
