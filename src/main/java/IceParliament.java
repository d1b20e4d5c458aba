import java.util.Arrays;
import java.util.NoSuchElementException;

/**
 * The ice sculptors' parliament: a yard that is told in a language, sessions by hand and told ones,
 * and advice on them. README.md says how it is used; the words in capitals are the document's.
 */
public final class IceParliament {
    public static final int NONE = -1;

    /** What some calls answer to wrong arguments because NONE means something to them. */
    private static final int OTHERS = -2;
    /** So many SPOTS, CARVERS and ACTS at most. */
    private static final int MOST = 6;
    /** So many sets of them there are. */
    private static final int SETS = 1 << MOST;
    private static final int MOST_FEET = 20;
    private static final int MOST_CHIPS = 99;
    private static final int MOST_PROPS = 3;
    private static final int FALL_NIGHTS = 40;
    private static final int UNDOS = 16;
    private static final int MARKS = 4;

    private final Tape tape = new Tape();
    private final Yard yard = new Yard();
    private final Yard draft = new Yard();
    private final YardReader reader = new YardReader(tape, draft);
    private final Session lines = new Session();
    private final Session draftLines = new Session();
    private final State now = new State(yard);
    private final State[] past = new State[UNDOS];
    private int undoable;
    private final State[] marks = new State[MARKS];
    private int marked;
    private final Planner planner = new Planner(yard, now);
    private final Breath breath = new Breath(yard, now);
    private final Trial trial = new Trial(yard);

    public IceParliament() {
        for (int i = 0; i < past.length; i++) {
            past[i] = new State(yard);
        }
        for (int i = 0; i < marks.length; i++) {
            marks[i] = new State(yard);
        }
    }

    // ---- the language

    public int feed(long a, long b, long c) {
        tape.append(a);
        tape.append(b);
        tape.append(c);
        return tape.size;
    }

    public int yard() {
        int fault = reader.read();
        tape.clear();
        if (fault == 0) {
            yard.copyFrom(draft);
            now.clear();
            lines.clear();
            undoable = 0;
            marked = 0;
        }
        return fault;
    }

    public int session() {
        int fault = draftLines.read(tape, yard);
        tape.clear();
        if (fault == 0) {
            lines.copyFrom(draftLines);
        }
        return fault;
    }

    // ---- what there is

    public int act(int act, int what) {
        if (!isAct(act)) {
            return NONE;
        }
        switch (what) {
            case 0: return yard.kind[act];
            case 1: return now.feet[act];
            case 2: return now.chips[act];
            case 3: return yard.doneBy(act);
            case 4: return now.spot[act];
            case 5: return now.props[act];
            case 6: return now.isInForce(act) ? 1 : 0;
            case 7: return has(now.fallen, act) ? 1 : 0;
            case 8: return now.isUp(act) ? now.meltsTonight(act, 0) : 0;
            default: return NONE;
        }
    }

    public int carver(int carver, int what) {
        if (!isCarver(carver)) {
            return OTHERS;
        }
        switch (what) {
            case 0: return yard.side[carver];
            case 1: return yard.skill[carver];
            case 2: return now.carved[carver];
            case 3: return has(now.hurt, carver) ? 1 : 0;
            default: return OTHERS;
        }
    }

    public int force() {
        return now.inForce();
    }

    public int side(int side) {
        if (side < 0 || side > 1) {
            return NONE;
        }
        int worth = 0;
        for (int act = 0; act < yard.acts.size; act++) {
            if (now.isInForce(act) && yard.side[yard.mover[act]] == side) {
                worth += yard.worth[act];
            }
        }
        return worth;
    }

    public int count(int what) {
        switch (what) {
            case 0: return yard.spots.size;
            case 1: return yard.carvers.size;
            case 2: return yard.acts.size;
            case 3: return yard.pairs;
            case 4: return now.night;
            case 5: return yard.warmthOf(now.night);
            case 6: return now.up();
            case 7: return now.fallen;
            case 8: return now.worthInForce();
            case 9: return lines.size;
            case 10: return now.howManyTold();
            case 11: return undoable;
            case 12: return tape.size;
            default: return NONE;
        }
    }

    // ---- by hand

    public boolean begin(int act, int spot) {
        if (!isAct(act) || !isSpot(spot) || !now.canBegin(act, spot)) {
            return false;
        }
        keepForUndo();
        now.startAt(act, spot);
        return true;
    }

    public int carve(int carver, int act) {
        if (!isCarver(carver) || !isAct(act) || !now.canCarve(carver, act)) {
            return NONE;
        }
        keepForUndo();
        now.cutBy(carver, act);
        return now.chips[act];
    }

    public int prop(int act) {
        if (!isAct(act) || !now.canProp(act)) {
            return NONE;
        }
        keepForUndo();
        now.props[act]++;
        return now.props[act];
    }

    public int torch(int act) {
        if (!isAct(act) || !now.isUp(act)) {
            return NONE;
        }
        keepForUndo();
        now.burn(act);
        return now.feet[act];
    }

    public int night() {
        keepForUndo();
        return now.passNight(0);
    }

    public boolean undo() {
        if (undoable < 1 || undoable > past.length) {
            return false;
        }
        undoable--;
        now.copyFrom(past[undoable]);
        return true;
    }

    public boolean mark(int mark, boolean back) {
        if (mark < 0 || mark >= marks.length) {
            return false;
        }
        if (!back) {
            marks[mark].copyFrom(now);
            marked |= 1 << mark;
            return true;
        }
        if (!has(marked, mark)) {
            return false;
        }
        now.copyFrom(marks[mark]);
        undoable = 0;
        return true;
    }

    /** The eldest state makes room by being written again at the young end: no call makes objects. */
    private void keepForUndo() {
        if (undoable >= past.length) {
            State eldest = past[0];
            for (int i = 1; i < past.length; i++) {
                past[i - 1] = past[i];
            }
            past[past.length - 1] = eldest;
            undoable = past.length - 1;
        }
        past[undoable].copyFrom(now);
        undoable++;
    }

    // ---- told sessions and decades

    public int judged(int what) {
        if (what < 0 || what > 2) {
            return OTHERS;
        }
        trial.judge(lines);
        if (what == 0) {
            return trial.wrongLine;
        }
        return what == 1 ? trial.bareNight : trial.worth;
    }

    public int decades(int seed, int nights, int what) {
        if (seed < 0 || seed > 9999 || nights < 1 || nights > 60 || what < 0 || what > 2) {
            return NONE;
        }
        trial.live(now, seed, nights);
        if (what == 0) {
            return trial.worth;
        }
        return what == 1 ? trial.gone : trial.hurt;
    }

    // ---- advice

    public int falls(int act) {
        if (!isAct(act) || !now.isUp(act)) {
            return NONE;
        }
        int nights = now.fallsIn(act, now.props[act], FALL_NIGHTS);
        return nights > FALL_NIGHTS ? NONE : nights;
    }

    public int clashes() {
        return yard.clashesIn(now.inForce());
    }

    public int mend(int what) {
        if (what < 0 || what > 1) {
            return NONE;
        }
        int gone = planner.leastToLetGo();
        return what == 0 ? yard.worthOf(gone) : gone;
    }

    public int work(int nights, int what) {
        if (nights < 1 || nights > Planner.WORK_NIGHTS || what < 0 || what > yard.carvers.size) {
            return OTHERS;
        }
        int worth = planner.shareWork(nights);
        return what == 0 ? worth : planner.takes[what - 1];
    }

    public int places(int act) {
        if (act != NONE && !isAct(act)) {
            return OTHERS;
        }
        int nights = planner.findPlaces();
        return act == NONE ? nights : planner.placeOf[act];
    }

    public int thin(int act, int spot, int nights) {
        if (!isAct(act) || !isSpot(spot) || nights < 1 || nights > 30) {
            return NONE;
        }
        for (int feet = 1; feet <= 40; feet++) {
            if (yard.fallsIn(act, spot, feet, 0, now.night, nights) > nights) {
                return feet;
            }
        }
        return NONE;
    }

    public int stands(int act, int nights) {
        if (!isAct(act) || !now.isUp(act) || nights < 1 || nights > 8) {
            return NONE;
        }
        return planner.chanceToStand(act, nights);
    }

    public int propped(int nights) {
        if (nights < 1 || nights > 30) {
            return NONE;
        }
        return planner.bestToProp(nights);
    }

    public boolean tell(int act, int feet) {
        if (!isAct(act) || !now.isUp(act) || feet < 0 || feet > MOST_FEET) {
            return false;
        }
        now.told[act] = feet;
        return true;
    }

    public int sets(int what) {
        if (what < 0 || what > 2) {
            return NONE;
        }
        breath.findSets();
        if (what == 0) {
            return breath.size;
        }
        if (breath.size == 0) {
            return NONE;
        }
        return what == 1 ? breath.inAll() : breath.inSome();
    }

    public int look() {
        return breath.bestToLookAt();
    }

    public int rests(int hold, int burn, int loses, int what) throws NoSuchElementException {
        if (!isDigit(hold) || !isDigit(burn) || !isDigit(loses) || what < NONE) {
            throw new NoSuchElementException();
        }
        int seen = 0;
        for (int pair = 0; pair < 4; pair++) {
            if (isRest(pair, hold, burn, loses)) {
                if (seen == what) {
                    return pair;
                }
                seen++;
            }
        }
        if (what == NONE) {
            return seen;
        }
        throw new NoSuchElementException();
    }

    private static boolean isRest(int pair, int hold, int burn, int loses) {
        int first = pair / 2;
        int other = pair % 2;
        return gets(first, other, hold, burn, loses) >= gets(1 - first, other, hold, burn, loses)
            && gets(other, first, hold, burn, loses) >= gets(1 - other, first, hold, burn, loses);
    }

    /** What the side that chooses mine gets against a side that chooses his (1 burns). */
    private static int gets(int mine, int his, int hold, int burn, int loses) {
        if (mine == 0) {
            return his == 0 ? hold : 0;
        }
        return his == 0 ? burn : -loses;
    }

    private static boolean isDigit(int number) {
        return number >= 0 && number <= 9;
    }

    private boolean isSpot(int spot) {
        return spot >= 0 && spot < yard.spots.size;
    }

    private boolean isCarver(int carver) {
        return carver >= 0 && carver < yard.carvers.size;
    }

    private boolean isAct(int act) {
        return act >= 0 && act < yard.acts.size;
    }

    private static boolean has(int bits, int number) {
        return (bits >> number & 1) == 1;
    }

    /** The TAPE: its signs, the token that is looked at, and the FAULT that was found. */
    private static final class Tape {
        static final int MOST_SIGNS = 1000;
        static final int CANT_STAND = 1;
        static final int NOT_TOLD = 2;
        static final int TOLD_ALREADY = 3;
        static final int NOT_AS_TOLD = 4;
        static final int TOO_MANY = 5;

        private static final int NO_TOKEN = 0;
        private static final int WORD = 1;
        private static final int NUMBER = 2;
        private static final int SIGN = 3;
        private static final int END = 4;
        private static final int MOST_LETTERS = 8;
        private static final int MOST_DIGITS = 4;
        private static final String SIGNS = "()<=+-*;";
        /** Each with a blank behind it, the last one too. */
        private static final String RESERVED = "spot shade carver skill act feet chips worth by clash nights mild melts carves begin carve prop torch night ayes noes plain hollow thin old not and or ";

        int size;
        int fault;
        /** The NUMBER that was seen last. */
        int number;
        /** Whose NAME was seen last. */
        int found;

        private final char[] signs = new char[MOST_SIGNS];
        private int kind;
        private int place;
        private int next;
        private long packed;

        void append(long eight) {
            for (int shift = 56; shift >= 0; shift -= 8) {
                int sign = (int) (eight >>> shift) & 255;
                if ((sign == 10 || sign >= 32 && sign <= 126) && size < signs.length) {
                    signs[size] = (char) sign;
                    size++;
                }
            }
        }

        void clear() {
            size = 0;
        }

        void rewind() {
            next = 0;
            advance();
        }

        void advance() {
            while (next < size && (signs[next] == 10 || signs[next] == ' ')) {
                next++;
            }
            place = next;
            if (next >= size) {
                kind = END;
            } else if (signs[next] >= 'a' && signs[next] <= 'z') {
                takeLetters();
            } else if (signs[next] >= '0' && signs[next] <= '9') {
                takeDigits();
            } else {
                kind = SIGNS.indexOf(signs[next]) >= 0 ? SIGN : NO_TOKEN;
                next++;
            }
        }

        /** A WORD fits into a long by five bits a letter, so that names need no texts. */
        private void takeLetters() {
            packed = 0;
            while (next < size && signs[next] >= 'a' && signs[next] <= 'z') {
                packed = packed * 32 + (signs[next] - 'a' + 1);
                next++;
            }
            kind = next - place > MOST_LETTERS ? NO_TOKEN : WORD;
        }

        private void takeDigits() {
            number = 0;
            while (next < size && signs[next] >= '0' && signs[next] <= '9') {
                number = number * 10 + (signs[next] - '0');
                next++;
            }
            kind = next - place > MOST_DIGITS ? NO_TOKEN : NUMBER;
        }

        boolean atEnd() {
            return kind == END;
        }

        boolean isNumber() {
            return kind == NUMBER;
        }

        boolean isSign(char sign) {
            return kind == SIGN && place < size && signs[place] == sign;
        }

        boolean isWord(String text) {
            int length = text.length();
            if (kind != WORD || next - place != length || next > size) {
                return false;
            }
            for (int i = 0; i < length; i++) {
                if (signs[place + i] != text.charAt(i)) {
                    return false;
                }
            }
            return true;
        }

        private boolean isName() {
            if (kind != WORD) {
                return false;
            }
            long word = 0;
            for (int i = 0; i < RESERVED.length(); i++) {
                char sign = RESERVED.charAt(i);
                if (sign != ' ') {
                    word = word * 32 + (sign - 'a' + 1);
                } else if (word == packed) {
                    return false;
                } else {
                    word = 0;
                }
            }
            return true;
        }

        /** The token that is looked at is the first wrong one; false, for the reader to hand on. */
        boolean wrong(int fault) {
            this.fault = fault + 16 * place;
            return false;
        }

        boolean takeWord(String text) {
            if (!isWord(text)) {
                return wrong(CANT_STAND);
            }
            advance();
            return true;
        }

        boolean takeSign(char sign) {
            if (!isSign(sign)) {
                return wrong(CANT_STAND);
            }
            advance();
            return true;
        }

        boolean seeNumber(int least, int most) {
            if (kind != NUMBER) {
                return wrong(CANT_STAND);
            }
            return number >= least && number <= most || wrong(NOT_AS_TOLD);
        }

        /** A NUMBER behind its word, put into a row of the YARD. */
        boolean takeNumber(String word, int least, int most, int[] row, int at) {
            if (!takeWord(word) || !seeNumber(least, most)) {
                return false;
            }
            if (at >= 0 && at < row.length) {
                row[at] = number;
            }
            advance();
            return true;
        }

        boolean takeNewName(Yard yard, Roll roll) {
            if (!isName()) {
                return wrong(CANT_STAND);
            }
            if (yard.knows(packed)) {
                return wrong(TOLD_ALREADY);
            }
            roll.add(packed);
            advance();
            return true;
        }

        boolean seeName(Roll roll) {
            if (!isName()) {
                return wrong(CANT_STAND);
            }
            found = roll.find(packed);
            return found != NONE || wrong(NOT_TOLD);
        }

        boolean takeName(Roll roll) {
            if (!seeName(roll)) {
                return false;
            }
            advance();
            return true;
        }
    }

    /** The names of SPOTS, of CARVERS or of ACTS, numbered as told. */
    private static final class Roll {
        int size;
        private final long[] names = new long[MOST];

        void clear() {
            size = 0;
        }

        void copyFrom(Roll other) {
            System.arraycopy(other.names, 0, names, 0, names.length);
            size = other.size;
        }

        boolean isFull() {
            return size >= names.length;
        }

        void add(long name) {
            if (size < names.length) {
                names[size] = name;
                size++;
            }
        }

        int find(long name) {
            for (int i = 0; i < size; i++) {
                if (names[i] == name) {
                    return i;
                }
            }
            return NONE;
        }
    }

    /** An E as a row for a stack: operands first, then what joins them. */
    private static final class Law {
        /** What is below this is a NUMBER; the three facts stand from here on. */
        static final int FACT = 10000;
        static final int NOT = 10003;
        static final int TIMES = 10004;
        static final int PLUS = 10005;
        static final int MINUS = 10006;
        static final int LESS = 10007;
        static final int EQUAL = 10008;
        static final int AND = 10009;
        static final int OR = 10010;

        /** Five brackets, each behind a left side of or, <, + and *, need no more than this. */
        private static final int DEEPEST = 32;

        /** Of a draft: its line was read already. */
        boolean told;

        private final int[] code = new int[Tape.MOST_SIGNS];
        private int size;
        private final int[] stack = new int[DEEPEST];

        void clear() {
            size = 0;
            told = false;
        }

        void add(int word) {
            if (size < code.length) {
                code[size] = word;
                size++;
            }
        }

        void copyFrom(Law other) {
            System.arraycopy(other.code, 0, code, 0, other.size);
            size = other.size;
        }

        int valueOf(int first, int second, int third) {
            int top = 0;
            for (int i = 0; i < size; i++) {
                int word = code[i];
                if (word < NOT) {
                    if (top < stack.length) {
                        stack[top] = word < FACT ? word : pick(word - FACT, first, second, third);
                        top++;
                    }
                } else if (word == NOT) {
                    if (top > 0) {
                        stack[top - 1] = stack[top - 1] == 0 ? 1 : 0;
                    }
                } else if (top > 1) {
                    top--;
                    stack[top - 1] = join(word, stack[top - 1], stack[top]);
                }
            }
            return stack[0];
        }

        private static int pick(int fact, int first, int second, int third) {
            if (fact == 0) {
                return first;
            }
            return fact == 1 ? second : third;
        }

        private static int join(int word, int left, int right) {
            switch (word) {
                case TIMES: return left * right;
                case PLUS: return left + right;
                case MINUS: return left - right;
                case LESS: return left < right ? 1 : 0;
                case EQUAL: return left == right ? 1 : 0;
                case AND: return left != 0 && right != 0 ? 1 : 0;
                default: return left != 0 || right != 0 ? 1 : 0;
            }
        }
    }

    /** Reads an E with a row of what is open, so that no depth of brackets needs a deeper call. */
    private static final class LawReader {
        private static final int BRACKET = 10011;
        private static final int NESTING = 5;

        private final Tape tape;
        private final int[] open = new int[48];
        private int opens;
        private int nested;
        private Law law;
        private boolean melting;

        LawReader(Tape tape, Law law) {
            this.tape = tape;
            this.law = law;
        }

        /** From the word melts or carves to the ; of its line. */
        boolean readInto(Law law, boolean melting) {
            if (law.told) {
                return tape.wrong(Tape.TOLD_ALREADY);
            }
            this.law = law;
            this.melting = melting;
            law.clear();
            law.told = true;
            tape.advance();
            opens = 0;
            nested = 0;
            for (int i = 0; i < Tape.MOST_SIGNS; i++) {
                if (!takeOpenings() || !takeLeaf()) {
                    return false;
                }
                takeClosings();
                int word = joinHere();
                if (word == NONE) {
                    return takeEnd();
                }
                if (!takeJoin(word)) {
                    return false;
                }
            }
            return tape.wrong(Tape.CANT_STAND);
        }

        private boolean takeOpenings() {
            for (int i = 0; i <= NESTING; i++) {
                boolean not = tape.isWord("not");
                if (!not && !tape.isSign('(')) {
                    return true;
                }
                if (nested >= NESTING) {
                    return tape.wrong(Tape.TOO_MANY);
                }
                nested++;
                push(not ? Law.NOT : BRACKET);
                tape.advance();
            }
            return true;
        }

        private boolean takeLeaf() {
            int word = tape.isNumber() ? tape.number : factHere();
            if (word == NONE) {
                return tape.wrong(Tape.CANT_STAND);
            }
            if (nested >= NESTING) {
                return tape.wrong(Tape.TOO_MANY);
            }
            law.add(word);
            tape.advance();
            closeNots();
            return true;
        }

        private int factHere() {
            if (tape.isWord(melting ? "warmth" : "able")) {
                return Law.FACT;
            }
            if (tape.isWord(melting ? "dark" : "tall")) {
                return Law.FACT + 1;
            }
            return tape.isWord(melting ? "tall" : "done") ? Law.FACT + 2 : NONE;
        }

        private void takeClosings() {
            for (int i = 0; i < NESTING && tape.isSign(')'); i++) {
                settle(1);
                if (opens == 0) {
                    return;
                }
                opens--;
                nested--;
                tape.advance();
                closeNots();
            }
        }

        private int joinHere() {
            if (tape.isSign('*')) {
                return Law.TIMES;
            }
            if (tape.isSign('+')) {
                return Law.PLUS;
            }
            if (tape.isSign('-')) {
                return Law.MINUS;
            }
            if (tape.isSign('<')) {
                return Law.LESS;
            }
            if (tape.isSign('=')) {
                return Law.EQUAL;
            }
            if (tape.isWord("and")) {
                return Law.AND;
            }
            return tape.isWord("or") ? Law.OR : NONE;
        }

        private boolean takeJoin(int word) {
            int rank = rankOf(word);
            boolean compares = rank == rankOf(Law.LESS);
            settle(compares ? rank + 1 : rank);
            if (compares && opens > 0 && rankOf(open[opens - 1]) == rank) {
                return tape.wrong(Tape.CANT_STAND);
            }
            push(word);
            tape.advance();
            return true;
        }

        private boolean takeEnd() {
            settle(1);
            if (opens > 0) {
                return tape.wrong(Tape.CANT_STAND);
            }
            return tape.takeSign(';');
        }

        /** How tightly a sign or word joins; 0 for what is opened ahead of a PART. */
        private static int rankOf(int word) {
            switch (word) {
                case Law.TIMES: return 4;
                case Law.PLUS:
                case Law.MINUS: return 3;
                case Law.LESS:
                case Law.EQUAL: return 2;
                case Law.AND:
                case Law.OR: return 1;
                default: return 0;
            }
        }

        private void push(int word) {
            if (opens < open.length) {
                open[opens] = word;
                opens++;
            }
        }

        private void settle(int rank) {
            while (opens > 0 && rankOf(open[opens - 1]) >= rank) {
                opens--;
                law.add(open[opens]);
            }
        }

        private void closeNots() {
            while (opens > 0 && open[opens - 1] == Law.NOT) {
                opens--;
                nested--;
                law.add(Law.NOT);
            }
        }
    }

    /** A YARD as told, and what follows from it alone. */
    private static final class Yard {
        static final int MOST_NIGHTS = 14;
        static final int HOLLOW = 1;
        static final int THIN = 2;
        static final int OLD = 3;

        private static final int DEEP_SHADE = 5;
        private static final int USUAL_WARMTH = 3;

        final Roll spots = new Roll();
        final Roll carvers = new Roll();
        final Roll acts = new Roll();
        final int[] shade = new int[MOST];
        final int[] side = new int[MOST];
        final int[] skill = new int[MOST];
        final int[] kind = new int[MOST];
        final int[] feet = new int[MOST];
        final int[] chips = new int[MOST];
        final int[] worth = new int[MOST];
        final int[] mover = new int[MOST];
        /** Of each ACT the ACTS that it clashes with, as bits. */
        final int[] foes = new int[MOST];
        int pairs;
        final int[] warmth = new int[MOST_NIGHTS];
        int nights;
        int mild;
        final Law melts = new Law();
        final Law carves = new Law();

        Yard() {
            clear();
        }

        void clear() {
            spots.clear();
            carvers.clear();
            acts.clear();
            Arrays.fill(foes, 0);
            pairs = 0;
            nights = 0;
            mild = 0;
            melts.clear();
            melts.add(Law.FACT);
            melts.add(Law.FACT + 1);
            melts.add(Law.MINUS);
            carves.clear();
            carves.add(Law.FACT);
        }

        void copyFrom(Yard other) {
            spots.copyFrom(other.spots);
            carvers.copyFrom(other.carvers);
            acts.copyFrom(other.acts);
            System.arraycopy(other.shade, 0, shade, 0, MOST);
            System.arraycopy(other.side, 0, side, 0, MOST);
            System.arraycopy(other.skill, 0, skill, 0, MOST);
            System.arraycopy(other.kind, 0, kind, 0, MOST);
            System.arraycopy(other.feet, 0, feet, 0, MOST);
            System.arraycopy(other.chips, 0, chips, 0, MOST);
            System.arraycopy(other.worth, 0, worth, 0, MOST);
            System.arraycopy(other.mover, 0, mover, 0, MOST);
            System.arraycopy(other.foes, 0, foes, 0, MOST);
            pairs = other.pairs;
            System.arraycopy(other.warmth, 0, warmth, 0, MOST_NIGHTS);
            nights = other.nights;
            mild = other.mild;
            melts.copyFrom(other.melts);
            carves.copyFrom(other.carves);
        }

        boolean knows(long name) {
            return spots.find(name) != NONE || carvers.find(name) != NONE || acts.find(name) != NONE;
        }

        void addClash(int first, int second) {
            foes[first] |= 1 << second;
            foes[second] |= 1 << first;
            pairs++;
        }

        void addNight(int degrees) {
            if (nights < warmth.length) {
                warmth[nights] = degrees;
                nights++;
            }
        }

        int warmthOf(int night) {
            return nights < 1 ? USUAL_WARMTH : warmth[Math.floorMod(night, nights)];
        }

        int doneBy(int act) {
            return kind[act] == HOLLOW ? Math.max(1, chips[act] / 2) : chips[act];
        }

        int meltingOf(int act, int spot, int tall, int props, int degrees) {
            if (spot < 0 || kind[act] == OLD && shade[spot] >= DEEP_SHADE) {
                return 0;
            }
            int melting = Math.max(0, Math.min(9, melts.valueOf(degrees, shade[spot], tall)));
            if (kind[act] == HOLLOW) {
                melting++;
            } else if (kind[act] == THIN) {
                melting /= 2;
            }
            return Math.max(0, melting - props);
        }

        /** The chips of an ACT behind one more CARVE of it. */
        int chipsBy(int carver, int tall, int done) {
            int more = Math.max(0, Math.min(MOST_CHIPS, carves.valueOf(skill[carver], tall, done)));
            return Math.min(MOST_CHIPS, done + more);
        }

        /** In how many NIGHTS from this one on so much ice has fallen; one more than most if it has not. */
        int fallsIn(int act, int spot, int tall, int props, int night, int most) {
            int left = tall;
            for (int i = 0; i < most; i++) {
                left -= meltingOf(act, spot, left, props, warmthOf(night + i));
                if (left <= 0) {
                    return i + 1;
                }
            }
            return most + 1;
        }

        int worthOf(int set) {
            int sum = 0;
            for (int act = 0; act < acts.size; act++) {
                sum += has(set, act) ? worth[act] : 0;
            }
            return sum;
        }

        int clashesIn(int set) {
            int ends = 0;
            for (int act = 0; act < acts.size; act++) {
                ends += has(set, act) ? Integer.bitCount(foes[act] & set) : 0;
            }
            return ends / 2;
        }
    }

    /** Reads a YARD from the TAPE into a draft, so that a FAULT leaves the YARD as it is. */
    private static final class YardReader {
        private final Tape tape;
        private final Yard yard;
        private final LawReader laws;
        private boolean mildTold;

        YardReader(Tape tape, Yard draft) {
            this.tape = tape;
            this.yard = draft;
            this.laws = new LawReader(tape, draft.melts);
        }

        /** 0, or the FAULT. */
        int read() {
            yard.clear();
            mildTold = false;
            tape.rewind();
            for (int i = 0; i < Tape.MOST_SIGNS && !tape.atEnd(); i++) {
                if (!readLine()) {
                    return tape.fault;
                }
            }
            return 0;
        }

        private boolean readLine() {
            if (tape.isWord("spot")) {
                return readSpot();
            }
            if (tape.isWord("carver")) {
                return readCarver();
            }
            if (tape.isWord("act")) {
                return readAct();
            }
            if (tape.isWord("clash")) {
                return readClash();
            }
            if (tape.isWord("nights")) {
                return readNights();
            }
            if (tape.isWord("mild")) {
                return readMild();
            }
            if (tape.isWord("melts")) {
                return laws.readInto(yard.melts, true);
            }
            return tape.isWord("carves") ? laws.readInto(yard.carves, false) : tape.wrong(Tape.CANT_STAND);
        }

        private boolean readSpot() {
            int spot = yard.spots.size;
            return takeHead(yard.spots)
                && tape.takeNumber("shade", 0, 9, yard.shade, spot)
                && tape.takeSign(';');
        }

        private boolean readCarver() {
            int carver = yard.carvers.size;
            return takeHead(yard.carvers)
                && takeSide(carver)
                && tape.takeNumber("skill", 0, 9, yard.skill, carver)
                && tape.takeSign(';');
        }

        private boolean readAct() {
            int act = yard.acts.size;
            return takeHead(yard.acts)
                && takeKind(act)
                && tape.takeNumber("feet", 1, MOST_FEET, yard.feet, act)
                && tape.takeNumber("chips", 1, MOST_CHIPS, yard.chips, act)
                && tape.takeNumber("worth", 0, 99, yard.worth, act)
                && tape.takeWord("by")
                && takeMover(act)
                && tape.takeSign(';');
        }

        /** The word that begins a line, and the new NAME behind it. */
        private boolean takeHead(Roll roll) {
            if (roll.isFull()) {
                return tape.wrong(Tape.TOO_MANY);
            }
            tape.advance();
            return tape.takeNewName(yard, roll);
        }

        private boolean takeSide(int carver) {
            boolean noes = tape.isWord("noes");
            if (!noes && !tape.isWord("ayes")) {
                return tape.wrong(Tape.CANT_STAND);
            }
            yard.side[carver] = noes ? 1 : 0;
            tape.advance();
            return true;
        }

        private boolean takeKind(int act) {
            if (tape.isWord("plain")) {
                yard.kind[act] = 0;
            } else if (tape.isWord("hollow")) {
                yard.kind[act] = Yard.HOLLOW;
            } else if (tape.isWord("thin")) {
                yard.kind[act] = Yard.THIN;
            } else if (tape.isWord("old")) {
                yard.kind[act] = Yard.OLD;
            } else {
                return tape.wrong(Tape.CANT_STAND);
            }
            tape.advance();
            return true;
        }

        private boolean takeMover(int act) {
            if (!tape.seeName(yard.carvers)) {
                return false;
            }
            yard.mover[act] = tape.found;
            tape.advance();
            return true;
        }

        private boolean readClash() {
            tape.advance();
            if (!tape.takeName(yard.acts)) {
                return false;
            }
            int first = tape.found;
            if (!tape.seeName(yard.acts)) {
                return false;
            }
            int second = tape.found;
            if (second == first || has(yard.foes[first], second)) {
                return tape.wrong(Tape.TOLD_ALREADY);
            }
            yard.addClash(first, second);
            tape.advance();
            return tape.takeSign(';');
        }

        private boolean readNights() {
            if (yard.nights > 0) {
                return tape.wrong(Tape.TOLD_ALREADY);
            }
            tape.advance();
            for (int i = 0; i <= Yard.MOST_NIGHTS && (i == 0 || tape.isNumber()); i++) {
                if (!tape.seeNumber(0, 9)) {
                    return false;
                }
                if (i == Yard.MOST_NIGHTS) {
                    return tape.wrong(Tape.TOO_MANY);
                }
                yard.addNight(tape.number);
                tape.advance();
            }
            return tape.takeSign(';');
        }

        private boolean readMild() {
            if (mildTold) {
                return tape.wrong(Tape.TOLD_ALREADY);
            }
            mildTold = true;
            tape.advance();
            if (!tape.seeNumber(0, 10)) {
                return false;
            }
            yard.mild = tape.number;
            tape.advance();
            return tape.takeSign(';');
        }
    }

    /** The lines of a SESSION, their names already turned into numbers. */
    private static final class Session {
        static final int BEGIN = 0;
        static final int CARVE = 1;
        static final int PROP = 2;
        static final int TORCH = 3;
        static final int NIGHT = 4;

        private static final int MOST_LINES = 40;

        final int[] deed = new int[MOST_LINES];
        final int[] first = new int[MOST_LINES];
        final int[] second = new int[MOST_LINES];
        int size;

        void clear() {
            size = 0;
        }

        void copyFrom(Session other) {
            System.arraycopy(other.deed, 0, deed, 0, MOST_LINES);
            System.arraycopy(other.first, 0, first, 0, MOST_LINES);
            System.arraycopy(other.second, 0, second, 0, MOST_LINES);
            size = other.size;
        }

        /** 0, or the FAULT. */
        int read(Tape tape, Yard yard) {
            clear();
            tape.rewind();
            for (int i = 0; i <= MOST_LINES && !tape.atEnd(); i++) {
                if (!readLine(tape, yard)) {
                    return tape.fault;
                }
            }
            return 0;
        }

        private boolean readLine(Tape tape, Yard yard) {
            int told = deedHere(tape);
            if (told == NONE) {
                return tape.wrong(Tape.CANT_STAND);
            }
            if (size >= MOST_LINES) {
                return tape.wrong(Tape.TOO_MANY);
            }
            tape.advance();
            if (!takeNames(tape, yard, told) || !tape.takeSign(';')) {
                return false;
            }
            deed[size] = told;
            size++;
            return true;
        }

        private static int deedHere(Tape tape) {
            if (tape.isWord("begin")) {
                return BEGIN;
            }
            if (tape.isWord("carve")) {
                return CARVE;
            }
            if (tape.isWord("prop")) {
                return PROP;
            }
            if (tape.isWord("torch")) {
                return TORCH;
            }
            return tape.isWord("night") ? NIGHT : NONE;
        }

        private boolean takeNames(Tape tape, Yard yard, int told) {
            if (told == NIGHT) {
                return true;
            }
            if (!tape.takeName(told == CARVE ? yard.carvers : yard.acts)) {
                return false;
            }
            first[size] = tape.found;
            if (told == PROP || told == TORCH) {
                return true;
            }
            if (!tape.takeName(told == CARVE ? yard.acts : yard.spots)) {
                return false;
            }
            second[size] = tape.found;
            return true;
        }
    }

    /** All that UNDO and MARKS bring back, and what can be done by hand. */
    private static final class State {
        int night;
        final int[] feet = new int[MOST];
        final int[] chips = new int[MOST];
        final int[] props = new int[MOST];
        /** Of an ACT that STANDS its SPOT, of others NONE. */
        final int[] spot = new int[MOST];
        /** Of each CARVER the ACT that he carved since the last NIGHT. */
        final int[] carved = new int[MOST];
        final int[] told = new int[MOST];
        /** ACTS as bits; one that has fallen stays begun. */
        int begun;
        int fallen;
        /** CARVERS as bits. */
        int hurt;

        private final Yard yard;

        State(Yard yard) {
            this.yard = yard;
            clear();
        }

        void clear() {
            night = 0;
            System.arraycopy(yard.feet, 0, feet, 0, MOST);
            Arrays.fill(chips, 0);
            Arrays.fill(props, 0);
            Arrays.fill(spot, NONE);
            Arrays.fill(carved, NONE);
            Arrays.fill(told, NONE);
            begun = 0;
            fallen = 0;
            hurt = 0;
        }

        void copyFrom(State other) {
            night = other.night;
            System.arraycopy(other.feet, 0, feet, 0, MOST);
            System.arraycopy(other.chips, 0, chips, 0, MOST);
            System.arraycopy(other.props, 0, props, 0, MOST);
            System.arraycopy(other.spot, 0, spot, 0, MOST);
            System.arraycopy(other.carved, 0, carved, 0, MOST);
            System.arraycopy(other.told, 0, told, 0, MOST);
            begun = other.begun;
            fallen = other.fallen;
            hurt = other.hurt;
        }

        int up() {
            return begun & ~fallen;
        }

        boolean isUp(int act) {
            return has(up(), act);
        }

        boolean isDone(int act) {
            return chips[act] >= yard.doneBy(act);
        }

        boolean isInForce(int act) {
            return isUp(act) && isDone(act);
        }

        int inForce() {
            int set = 0;
            for (int act = 0; act < yard.acts.size; act++) {
                set |= isInForce(act) ? 1 << act : 0;
            }
            return set;
        }

        int worthInForce() {
            return yard.worthOf(inForce());
        }

        int howManyTold() {
            int many = 0;
            for (int act = 0; act < yard.acts.size; act++) {
                many += told[act] == NONE ? 0 : 1;
            }
            return many;
        }

        boolean isFree(int place) {
            for (int act = 0; act < yard.acts.size; act++) {
                if (spot[act] == place) {
                    return false;
                }
            }
            return true;
        }

        boolean canBegin(int act, int place) {
            return !has(begun, act) && isFree(place);
        }

        void startAt(int act, int place) {
            begun |= 1 << act;
            spot[act] = place;
        }

        boolean canCarve(int carver, int act) {
            return !has(hurt, carver) && carved[carver] == NONE && isUp(act) && !isDone(act);
        }

        void cutBy(int carver, int act) {
            chips[act] = yard.chipsBy(carver, feet[act], chips[act]);
            carved[carver] = act;
        }

        boolean canProp(int act) {
            return isUp(act) && props[act] < MOST_PROPS;
        }

        void burn(int act) {
            lose(act, 1);
        }

        /** True if the ACT has fallen by that. */
        private boolean lose(int act, int less) {
            feet[act] = Math.max(0, feet[act] - less);
            if (feet[act] > 0) {
                return false;
            }
            fallen |= 1 << act;
            spot[act] = NONE;
            return true;
        }

        int meltsTonight(int act, int milder) {
            return yard.meltingOf(act, spot[act], feet[act], props[act], yard.warmthOf(night) + milder);
        }

        int fallsIn(int act, int propped, int most) {
            return yard.fallsIn(act, spot[act], feet[act], propped, night, most);
        }

        /** How many have fallen by a NIGHT that is so much warmer than told. */
        int passNight(int milder) {
            int gone = 0;
            for (int act = 0; act < yard.acts.size; act++) {
                if (isUp(act) && lose(act, meltsTonight(act, milder))) {
                    gone++;
                    if (carved[yard.mover[act]] == act) {
                        hurt |= 1 << yard.mover[act];
                    }
                }
            }
            Arrays.fill(carved, NONE);
            Arrays.fill(told, NONE);
            night++;
            return gone;
        }
    }

    /** What to let go, to carve, to place and to prop, and the odds of standing. */
    private static final class Planner {
        static final int WORK_NIGHTS = 6;

        private static final int WORKERS = 4;
        private static final int CREWS = 1 << WORKERS;
        /** More than all NIGHTS that six ACTS can stand together, so that one ACT more always counts more. */
        private static final int ONE_MORE = 1000;

        /** Of each CARVER the ACT that WORK gives him. */
        final int[] takes = new int[MOST];
        /** Of each ACT the SPOT that PLACES gives it. */
        final int[] placeOf = new int[MOST];

        private final Yard yard;
        private final State now;
        private final int[] worker = new int[WORKERS];
        private int workers;
        private final int[] standing = new int[MOST];
        private int stand;
        private final int[][] worthBy = new int[MOST][CREWS];
        private final int[] row = new int[WORKERS];
        private final int[] crew = new int[MOST + 1];
        private final int[][] gain = new int[MOST][MOST];
        private final int[][] best = new int[MOST + 1][SETS];
        private final long[] odds = new long[MOST_FEET + 1];
        private final long[] later = new long[MOST_FEET + 1];

        Planner(Yard yard, State now) {
            this.yard = yard;
            this.now = now;
        }

        int leastToLetGo() {
            int force = now.inForce();
            int least = force;
            int leastWorth = yard.worthOf(force) + 1;
            for (int set = 0; set < SETS; set++) {
                if ((set & ~force) == 0 && yard.clashesIn(force & ~set) == 0 && yard.worthOf(set) < leastWorth) {
                    least = set;
                    leastWorth = yard.worthOf(set);
                }
            }
            return least;
        }

        /**
         * The most worth; takes then holds the first row that brings it. Melting does not ask who carves,
         * and a mover hurt by his ACT's fall has nothing left to carve: so what becomes of an ACT
         * hangs on its own crew alone, and is found once for each crew.
         */
        int shareWork(int nights) {
            callWorkers();
            listStanding();
            for (int i = 0; i < stand; i++) {
                for (int set = 0; set < 1 << workers; set++) {
                    worthBy[i][set] = worthByCrew(standing[i], set, nights);
                }
            }
            Arrays.fill(takes, NONE);
            Arrays.fill(row, 0);
            int most = NONE;
            int rows = howManyRows();
            for (int i = 0; i < rows; i++) {
                int worth = worthOfRow();
                if (worth > most) {
                    most = worth;
                    keepRow();
                }
                stepRow();
            }
            return most;
        }

        private void callWorkers() {
            workers = 0;
            for (int carver = 0; carver < yard.carvers.size && workers < WORKERS; carver++) {
                if (!has(now.hurt, carver)) {
                    worker[workers] = carver;
                    workers++;
                }
            }
        }

        private void listStanding() {
            stand = 0;
            for (int act = 0; act < yard.acts.size; act++) {
                if (now.isUp(act)) {
                    standing[stand] = act;
                    stand++;
                }
            }
        }

        private int worthByCrew(int act, int set, int nights) {
            int tall = now.feet[act];
            int done = now.chips[act];
            int enough = yard.doneBy(act);
            for (int i = 0; i < nights; i++) {
                for (int k = 0; k < workers; k++) {
                    if (has(set, k) && done < enough && canWork(worker[k], i)) {
                        done = yard.chipsBy(worker[k], tall, done);
                    }
                }
                tall -= yard.meltingOf(act, now.spot[act], tall, now.props[act], yard.warmthOf(now.night + i));
                if (tall <= 0) {
                    return 0;
                }
            }
            return done >= enough ? yard.worth[act] : 0;
        }

        /** Who has carved already rests tonight, and is hurt from then on if his own ACT falls on him. */
        private boolean canWork(int carver, int nightsOn) {
            int act = now.carved[carver];
            if (act == NONE) {
                return true;
            }
            if (nightsOn == 0) {
                return false;
            }
            return yard.mover[act] != carver || !now.isUp(act) || now.meltsTonight(act, 0) < now.feet[act];
        }

        private int howManyRows() {
            int rows = 1;
            for (int k = 0; k < workers; k++) {
                rows *= stand + 1;
            }
            return rows;
        }

        /** The last place of standing means none: so none comes behind all. */
        private int worthOfRow() {
            Arrays.fill(crew, 0);
            for (int k = 0; k < workers; k++) {
                crew[row[k]] |= 1 << k;
            }
            int sum = 0;
            for (int i = 0; i < stand; i++) {
                sum += worthBy[i][crew[i]];
            }
            return sum;
        }

        private void keepRow() {
            for (int k = 0; k < workers; k++) {
                takes[worker[k]] = row[k] < stand ? standing[row[k]] : NONE;
            }
        }

        private void stepRow() {
            for (int k = workers - 1; k >= 0; k--) {
                if (row[k] < stand) {
                    row[k]++;
                    return;
                }
                row[k] = 0;
            }
        }

        /** The NIGHTS together; placeOf then holds the first row that brings them. */
        int findPlaces() {
            fillGains();
            fillBest();
            int used = 0;
            for (int act = 0; act < yard.acts.size; act++) {
                placeOf[act] = firstPlace(act, used);
                used |= placeOf[act] == NONE ? 0 : 1 << placeOf[act];
            }
            return best[0][0] % ONE_MORE;
        }

        private int firstPlace(int act, int used) {
            for (int spot = 0; spot < yard.spots.size; spot++) {
                if (gain[act][spot] > 0 && !has(used, spot)
                    && gain[act][spot] + best[act + 1][used | 1 << spot] == best[act][used]) {
                    return spot;
                }
            }
            return NONE;
        }

        private void fillGains() {
            for (int act = 0; act < yard.acts.size; act++) {
                for (int spot = 0; spot < yard.spots.size; spot++) {
                    gain[act][spot] = !now.canBegin(act, spot) ? 0
                        : ONE_MORE + yard.fallsIn(act, spot, yard.feet[act], 0, now.night, FALL_NIGHTS);
                }
            }
        }

        /** best: what the ACTS from one on can bring when some SPOTS are used. */
        private void fillBest() {
            int sets = 1 << yard.spots.size;
            Arrays.fill(best[yard.acts.size], 0);
            for (int act = yard.acts.size - 1; act >= 0; act--) {
                for (int used = 0; used < sets; used++) {
                    int most = best[act + 1][used];
                    for (int spot = 0; spot < yard.spots.size; spot++) {
                        if (gain[act][spot] > 0 && !has(used, spot)) {
                            most = Math.max(most, gain[act][spot] + best[act + 1][used | 1 << spot]);
                        }
                    }
                    best[act][used] = most;
                }
            }
        }

        /** Odds are counted in tenths of tenths, so that nothing is lost before the cut. */
        int chanceToStand(int act, int nights) {
            Arrays.fill(odds, 0);
            odds[now.feet[act]] = 1;
            long whole = 1;
            for (int i = 0; i < nights; i++) {
                int warmth = yard.warmthOf(now.night + i);
                Arrays.fill(later, 0);
                spreadOdds(act, warmth, 10 - yard.mild);
                spreadOdds(act, warmth + Trial.MILDER, yard.mild);
                System.arraycopy(later, 0, odds, 0, odds.length);
                whole *= 10;
            }
            long standing = 0;
            for (int tall = 1; tall < odds.length; tall++) {
                standing += odds[tall];
            }
            return whole < 1 ? 0 : (int) (standing * 1000000 / whole);
        }

        private void spreadOdds(int act, int warmth, int tenths) {
            for (int tall = 1; tall < odds.length; tall++) {
                if (odds[tall] > 0 && tenths > 0) {
                    int left = tall - yard.meltingOf(act, now.spot[act], tall, now.props[act], warmth);
                    later[Math.max(0, left)] += odds[tall] * tenths;
                }
            }
        }

        /** A prop touches no other ACT: the worth that it saves of its own one is all that it brings. */
        int bestToProp(int nights) {
            int most = 0;
            int first = NONE;
            for (int act = 0; act < yard.acts.size; act++) {
                if (now.canProp(act)) {
                    int saved = worthBehind(act, now.props[act] + 1, nights) - worthBehind(act, now.props[act], nights);
                    if (saved > most) {
                        most = saved;
                        first = act;
                    }
                }
            }
            return first;
        }

        private int worthBehind(int act, int props, int nights) {
            return now.isInForce(act) && now.fallsIn(act, props, nights) > nights ? yard.worth[act] : 0;
        }
    }

    /** Who breathed: the SETS of CARVERS by which all that is TOLD is so. */
    private static final class Breath {
        int size;

        private final Yard yard;
        private final State now;
        private final int[] fits = new int[SETS];
        /** Of each ACT its feet behind the NIGHT that comes if nobody breathes, and who may breathe on it. */
        private final int[] calm = new int[MOST];
        private final int[] mouths = new int[MOST];
        private final int[] alike = new int[MOST_FEET + 1];

        Breath(Yard yard, State now) {
            this.yard = yard;
            this.now = now;
        }

        void findSets() {
            foresee();
            int who = 0;
            for (int carver = 0; carver < yard.carvers.size; carver++) {
                who |= now.carved[carver] == NONE ? 0 : 1 << carver;
            }
            size = 0;
            for (int set = 0; set < SETS; set++) {
                if ((set & ~who) == 0 && isAsTold(set)) {
                    fits[size] = set;
                    size++;
                }
            }
        }

        private void foresee() {
            for (int act = 0; act < yard.acts.size; act++) {
                calm[act] = now.isUp(act) ? Math.max(0, now.feet[act] - now.meltsTonight(act, 0)) : 0;
                mouths[act] = 0;
                for (int carver = 0; carver < yard.carvers.size; carver++) {
                    mouths[act] |= now.carved[carver] == act ? 1 << carver : 0;
                }
            }
        }

        private int feetBy(int act, int set) {
            return Math.max(0, calm[act] - Integer.bitCount(mouths[act] & set));
        }

        private boolean isAsTold(int set) {
            for (int act = 0; act < yard.acts.size; act++) {
                if (now.told[act] != NONE && now.told[act] != feetBy(act, set)) {
                    return false;
                }
            }
            return true;
        }

        int inAll() {
            int bits = SETS - 1;
            for (int i = 0; i < size; i++) {
                bits &= fits[i];
            }
            return bits;
        }

        int inSome() {
            int bits = 0;
            for (int i = 0; i < size; i++) {
                bits |= fits[i];
            }
            return bits;
        }

        int bestToLookAt() {
            findSets();
            int least = size;
            int first = NONE;
            for (int act = 0; act < yard.acts.size; act++) {
                if (now.isUp(act) && now.told[act] == NONE) {
                    int greatest = greatestAlike(act);
                    if (greatest < least) {
                        least = greatest;
                        first = act;
                    }
                }
            }
            return first;
        }

        private int greatestAlike(int act) {
            Arrays.fill(alike, 0);
            int greatest = 0;
            for (int i = 0; i < size; i++) {
                int feet = feetBy(act, fits[i]);
                alike[feet]++;
                greatest = Math.max(greatest, alike[feet]);
            }
            return greatest;
        }
    }

    /** Told SESSIONS and drawn DECADES, tried on a state of their own. */
    private static final class Trial {
        static final int MILDER = 3;

        int wrongLine;
        int bareNight;
        int worth;
        int gone;
        int hurt;

        private final Yard yard;
        private final State state;
        private long drawn;

        Trial(Yard yard) {
            this.yard = yard;
            this.state = new State(yard);
        }

        void judge(Session lines) {
            state.clear();
            wrongLine = NONE;
            bareNight = NONE;
            for (int line = 0; line < lines.size; line++) {
                if (!follow(lines.deed[line], lines.first[line], lines.second[line]) && wrongLine == NONE) {
                    wrongLine = line;
                }
                if (lines.deed[line] == Session.NIGHT && bareNight == NONE && state.inForce() == 0) {
                    bareNight = line;
                }
            }
            worth = state.worthInForce();
        }

        /** False if the line can't be: nothing is done then. */
        private boolean follow(int deed, int first, int second) {
            switch (deed) {
                case Session.BEGIN: return tryBegin(first, second);
                case Session.CARVE: return tryCarve(first, second);
                case Session.PROP:
                    if (!state.canProp(first)) {
                        return false;
                    }
                    state.props[first]++;
                    return true;
                case Session.TORCH:
                    if (!state.isUp(first)) {
                        return false;
                    }
                    state.burn(first);
                    return true;
                default:
                    state.passNight(0);
                    return true;
            }
        }

        private boolean tryBegin(int act, int spot) {
            if (!state.canBegin(act, spot)) {
                return false;
            }
            state.startAt(act, spot);
            return true;
        }

        private boolean tryCarve(int carver, int act) {
            if (!state.canCarve(carver, act)) {
                return false;
            }
            state.cutBy(carver, act);
            return true;
        }

        void live(State from, int seed, int nights) {
            state.copyFrom(from);
            drawn = seed;
            worth = 0;
            gone = 0;
            for (int i = 0; i < nights; i++) {
                liveDay();
                gone += state.passNight(draw(10) < yard.mild ? MILDER : 0);
                worth += state.worthInForce();
            }
            hurt = Integer.bitCount(state.hurt);
        }

        private void liveDay() {
            if (yard.acts.size > 0 && yard.spots.size > 0) {
                int act = draw(yard.acts.size);
                tryBegin(act, draw(yard.spots.size));
            }
            if (yard.acts.size > 0) {
                for (int carver = 0; carver < yard.carvers.size; carver++) {
                    tryCarve(carver, draw(yard.acts.size));
                }
            }
        }

        private int draw(int below) {
            drawn = (drawn * 1103515245L + 12345L) % 2147483648L;
            return below < 1 ? 0 : (int) (drawn / 65536 % below);
        }
    }
}
