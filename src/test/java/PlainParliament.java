import java.math.BigInteger;
import java.util.ArrayList;
import java.util.Arrays;
import java.util.HashSet;
import java.util.List;
import java.util.NoSuchElementException;
import java.util.Set;
import java.util.TreeMap;

/**
 * The document once more, written to be compared: trees for laws, copies for trials, every row and
 * every set tried one by one. It shares no line of thought with the class where that could be avoided.
 */
final class PlainParliament {
    private static final Set<String> RESERVED = new HashSet<>(Arrays.asList(
        "spot", "shade", "carver", "skill", "act", "feet", "chips", "worth", "by", "clash", "nights", "mild",
        "melts", "carves", "begin", "carve", "prop", "torch", "night", "ayes", "noes", "plain", "hollow", "thin",
        "old", "not", "and", "or"));
    private static final List<String> KINDS = Arrays.asList("plain", "hollow", "thin", "old");

    private static final class Fault extends RuntimeException {
        private static final long serialVersionUID = 1L;
        final int number;

        Fault(int kind, Token token) {
            super("fault", null, false, false);
            number = kind + 16 * token.place;
        }
    }

    private static final class Token {
        final String text;
        final int place;
        /** w word, n number, s sign, e end, x none. */
        final char sort;

        Token(String text, int place, char sort) {
            this.text = text;
            this.place = place;
            this.sort = sort;
        }

        boolean is(String other) {
            return (sort == 'w' || sort == 's') && text.equals(other);
        }
    }

    private interface Node {
        int value(TreeMap<String, Integer> facts);
    }

    private static final class Act {
        String kind;
        int feet;
        int chips;
        int worth;
        String mover;
    }

    private static final class Told {
        final List<String> spots = new ArrayList<>();
        final List<Integer> shades = new ArrayList<>();
        final List<String> carvers = new ArrayList<>();
        final List<String> sides = new ArrayList<>();
        final List<Integer> skills = new ArrayList<>();
        final List<String> acts = new ArrayList<>();
        final List<Act> as = new ArrayList<>();
        final Set<String> clash = new HashSet<>();
        List<Integer> nights;
        Integer mild;
        Node melts;
        Node carves;

        boolean knows(String name) {
            return spots.contains(name) || carvers.contains(name) || acts.contains(name);
        }

        String pair(int a, int b) {
            return Math.min(a, b) + "-" + Math.max(a, b);
        }
    }

    private static final class Moment {
        int night;
        int[] feet = new int[6];
        int[] chips = new int[6];
        int[] props = new int[6];
        int[] spot = {-1, -1, -1, -1, -1, -1};
        boolean[] begun = new boolean[6];
        boolean[] fallen = new boolean[6];
        int[] carved = {-1, -1, -1, -1, -1, -1};
        boolean[] hurt = new boolean[6];
        TreeMap<Integer, Integer> told = new TreeMap<>();

        Moment copy() {
            Moment m = new Moment();
            m.night = night;
            m.feet = feet.clone();
            m.chips = chips.clone();
            m.props = props.clone();
            m.spot = spot.clone();
            m.begun = begun.clone();
            m.fallen = fallen.clone();
            m.carved = carved.clone();
            m.hurt = hurt.clone();
            m.told = new TreeMap<>(told);
            return m;
        }
    }

    private final StringBuilder tape = new StringBuilder();
    private Told told = new Told();
    private List<String[]> lines = new ArrayList<>();
    private Moment now = new Moment();
    private final List<Moment> past = new ArrayList<>();
    private final TreeMap<Integer, Moment> marks = new TreeMap<>();

    private List<Token> tokens;
    private int at;

    // ---- the language

    int feed(long a, long b, long c) {
        for (long part : new long[] {a, b, c}) {
            byte[] bytes = new byte[8];
            long rest = part;
            for (int i = 7; i >= 0; i--) {
                bytes[i] = (byte) rest;
                rest >>= 8;
            }
            for (byte sign : bytes) {
                if ((sign == 10 || sign >= 32 && sign < 127) && tape.length() < 1000) {
                    tape.append((char) sign);
                }
            }
        }
        return tape.length();
    }

    private void cutTokens() {
        tokens = new ArrayList<>();
        at = 0;
        String text = tape.toString();
        tape.setLength(0);
        java.util.regex.Matcher m = java.util.regex.Pattern.compile("[a-z]+|[0-9]+|[^a-z0-9 \n]").matcher(text);
        while (m.find()) {
            String piece = m.group();
            char sort;
            if (piece.matches("[a-z]+")) {
                sort = piece.length() <= 8 ? 'w' : 'x';
            } else if (piece.matches("[0-9]+")) {
                sort = piece.length() <= 4 ? 'n' : 'x';
            } else {
                sort = "()<=+-*;".contains(piece) ? 's' : 'x';
            }
            tokens.add(new Token(piece, m.start(), sort));
        }
        tokens.add(new Token("", text.length(), 'e'));
    }

    private Token peek() {
        return tokens.get(at);
    }

    private Token take() {
        return tokens.get(at++);
    }

    private Token expect(String text) {
        Token t = peek();
        if (!t.is(text)) {
            throw new Fault(1, t);
        }
        return take();
    }

    private int number(int least, int most) {
        Token t = peek();
        if (t.sort != 'n') {
            throw new Fault(1, t);
        }
        int n = Integer.parseInt(t.text);
        if (n < least || n > most) {
            throw new Fault(4, t);
        }
        take();
        return n;
    }

    private Token name() {
        Token t = peek();
        if (t.sort != 'w' || RESERVED.contains(t.text)) {
            throw new Fault(1, t);
        }
        return take();
    }

    private int known(List<String> names) {
        Token t = name();
        if (!names.contains(t.text)) {
            throw new Fault(2, t);
        }
        return names.indexOf(t.text);
    }

    private String fresh(Told y) {
        Token t = name();
        if (y.knows(t.text)) {
            throw new Fault(3, t);
        }
        return t.text;
    }

    int yard() {
        cutTokens();
        Told y = new Told();
        try {
            while (peek().sort != 'e') {
                yardLine(y);
            }
        } catch (Fault f) {
            return f.number;
        }
        told = y;
        lines = new ArrayList<>();
        now = fresh();
        past.clear();
        marks.clear();
        return 0;
    }

    private Moment fresh() {
        Moment m = new Moment();
        for (int i = 0; i < told.as.size(); i++) {
            m.feet[i] = told.as.get(i).feet;
        }
        return m;
    }

    private void yardLine(Told y) {
        Token t = take();
        String w = t.sort == 'w' ? t.text : "";
        switch (w) {
            case "spot":
                room(t, y.spots);
                String spot = fresh(y);
                expect("shade");
                int shade = number(0, 9);
                y.spots.add(spot);
                y.shades.add(shade);
                break;
            case "carver":
                room(t, y.carvers);
                String carver = fresh(y);
                if (!peek().is("ayes") && !peek().is("noes")) {
                    throw new Fault(1, peek());
                }
                String side = take().text;
                expect("skill");
                int skill = number(0, 9);
                y.carvers.add(carver);
                y.sides.add(side);
                y.skills.add(skill);
                break;
            case "act":
                room(t, y.acts);
                actLine(y);
                break;
            case "clash":
                int a = known(y.acts);
                Token second = peek();
                int b = known(y.acts);
                if (a == b || !y.clash.add(y.pair(a, b))) {
                    throw new Fault(3, second);
                }
                break;
            case "nights":
                once(t, y.nights);
                nightsLine(y);
                break;
            case "mild":
                once(t, y.mild);
                y.mild = number(0, 10);
                break;
            case "melts":
                once(t, y.melts);
                y.melts = whole(Arrays.asList("warmth", "dark", "tall"), 0);
                break;
            case "carves":
                once(t, y.carves);
                y.carves = whole(Arrays.asList("able", "tall", "done"), 0);
                break;
            default:
                throw new Fault(1, t);
        }
        expect(";");
    }

    private void room(Token t, List<String> names) {
        if (names.size() == 6) {
            throw new Fault(5, t);
        }
    }

    private void once(Token t, Object already) {
        if (already != null) {
            throw new Fault(3, t);
        }
    }

    private void actLine(Told y) {
        String name = fresh(y);
        Act a = new Act();
        if (peek().sort != 'w' || !KINDS.contains(peek().text)) {
            throw new Fault(1, peek());
        }
        a.kind = take().text;
        expect("feet");
        a.feet = number(1, 20);
        expect("chips");
        a.chips = number(1, 99);
        expect("worth");
        a.worth = number(0, 99);
        expect("by");
        a.mover = y.carvers.get(known(y.carvers));
        y.acts.add(name);
        y.as.add(a);
    }

    private void nightsLine(Told y) {
        y.nights = new ArrayList<>();
        do {
            Token t = peek();
            int n = number(0, 9);
            if (y.nights.size() == 14) {
                throw new Fault(5, t);
            }
            y.nights.add(n);
        } while (peek().sort == 'n');
    }

    private Node whole(List<String> facts, int depth) {
        Node left = test(facts, depth);
        while (peek().is("and") || peek().is("or")) {
            boolean and = take().is("and");
            Node l = left;
            Node r = test(facts, depth);
            left = and ? f -> l.value(f) != 0 & r.value(f) != 0 ? 1 : 0 : f -> l.value(f) != 0 | r.value(f) != 0 ? 1 : 0;
        }
        return left;
    }

    private Node test(List<String> facts, int depth) {
        Node l = sum(facts, depth);
        if (peek().is("<")) {
            take();
            Node r = sum(facts, depth);
            return f -> l.value(f) < r.value(f) ? 1 : 0;
        }
        if (peek().is("=")) {
            take();
            Node r = sum(facts, depth);
            return f -> l.value(f) == r.value(f) ? 1 : 0;
        }
        return l;
    }

    private Node sum(List<String> facts, int depth) {
        Node left = product(facts, depth);
        while (peek().is("+") || peek().is("-")) {
            boolean plus = take().is("+");
            Node l = left;
            Node r = product(facts, depth);
            left = plus ? f -> l.value(f) + r.value(f) : f -> l.value(f) - r.value(f);
        }
        return left;
    }

    private Node product(List<String> facts, int depth) {
        Node left = part(facts, depth);
        while (peek().is("*")) {
            take();
            Node l = left;
            Node r = part(facts, depth);
            left = f -> l.value(f) * r.value(f);
        }
        return left;
    }

    private Node part(List<String> facts, int depth) {
        Token t = peek();
        boolean fact = t.sort == 'w' && facts.contains(t.text);
        if (t.sort != 'n' && !fact && !t.is("not") && !t.is("(")) {
            throw new Fault(1, t);
        }
        if (depth == 5) {
            throw new Fault(5, t);
        }
        take();
        if (t.sort == 'n') {
            int n = Integer.parseInt(t.text);
            return f -> n;
        }
        if (fact) {
            return f -> f.get(t.text);
        }
        if (t.is("not")) {
            Node p = part(facts, depth + 1);
            return f -> p.value(f) == 0 ? 1 : 0;
        }
        Node e = whole(facts, depth + 1);
        expect(")");
        return e;
    }

    int session() {
        cutTokens();
        List<String[]> read = new ArrayList<>();
        try {
            while (peek().sort != 'e') {
                sessionLine(read);
            }
        } catch (Fault f) {
            return f.number;
        }
        lines = read;
        return 0;
    }

    private void sessionLine(List<String[]> read) {
        Token t = take();
        if (t.sort != 'w' || !Arrays.asList("begin", "carve", "prop", "torch", "night").contains(t.text)) {
            throw new Fault(1, t);
        }
        if (read.size() == 40) {
            throw new Fault(5, t);
        }
        int a = -1;
        int b = -1;
        if (t.is("begin")) {
            a = known(told.acts);
            b = known(told.spots);
        } else if (t.is("carve")) {
            a = known(told.carvers);
            b = known(told.acts);
        } else if (!t.is("night")) {
            a = known(told.acts);
        }
        expect(";");
        read.add(new String[] {t.text, "" + a, "" + b});
    }

    // ---- rules

    private int warmth(int night) {
        return told.nights == null ? 3 : told.nights.get(night % told.nights.size());
    }

    private int mildness() {
        return told.mild == null ? 0 : told.mild;
    }

    private boolean up(Moment m, int act) {
        return m.begun[act] && !m.fallen[act];
    }

    private int need(int act) {
        Act a = told.as.get(act);
        return a.kind.equals("hollow") ? Math.max(1, a.chips / 2) : a.chips;
    }

    private boolean inForce(Moment m, int act) {
        return up(m, act) && m.chips[act] >= need(act);
    }

    private int forceOf(Moment m) {
        int bits = 0;
        for (int i = 0; i < told.as.size(); i++) {
            if (inForce(m, i)) {
                bits += 1 << i;
            }
        }
        return bits;
    }

    private int worthOf(int bits) {
        int sum = 0;
        for (int i = 0; i < told.as.size(); i++) {
            if ((bits & 1 << i) != 0) {
                sum += told.as.get(i).worth;
            }
        }
        return sum;
    }

    private int melt(Moment m, int act, int warmth) {
        Act a = told.as.get(act);
        int shade = told.shades.get(m.spot[act]);
        if (a.kind.equals("old") && shade >= 5) {
            return 0;
        }
        TreeMap<String, Integer> facts = new TreeMap<>();
        facts.put("warmth", warmth);
        facts.put("dark", shade);
        facts.put("tall", m.feet[act]);
        int e = told.melts == null ? warmth - shade : told.melts.value(facts);
        e = e < 0 ? 0 : e > 9 ? 9 : e;
        if (a.kind.equals("hollow")) {
            e = e + 1;
        }
        if (a.kind.equals("thin")) {
            e = e / 2;
        }
        e = e - m.props[act];
        return e < 0 ? 0 : e;
    }

    private boolean doBegin(Moment m, int act, int spot) {
        if (m.begun[act]) {
            return false;
        }
        for (int i = 0; i < told.as.size(); i++) {
            if (up(m, i) && m.spot[i] == spot) {
                return false;
            }
        }
        m.begun[act] = true;
        m.spot[act] = spot;
        return true;
    }

    private boolean doCarve(Moment m, int carver, int act) {
        if (m.hurt[carver] || m.carved[carver] != -1 || !up(m, act) || m.chips[act] >= need(act)) {
            return false;
        }
        TreeMap<String, Integer> facts = new TreeMap<>();
        facts.put("able", told.skills.get(carver));
        facts.put("tall", m.feet[act]);
        facts.put("done", m.chips[act]);
        int e = told.carves == null ? told.skills.get(carver) : told.carves.value(facts);
        e = e < 0 ? 0 : e > 99 ? 99 : e;
        m.chips[act] = Math.min(99, m.chips[act] + e);
        m.carved[carver] = act;
        return true;
    }

    private boolean doProp(Moment m, int act) {
        if (!up(m, act) || m.props[act] == 3) {
            return false;
        }
        m.props[act]++;
        return true;
    }

    private boolean doTorch(Moment m, int act) {
        if (!up(m, act)) {
            return false;
        }
        m.feet[act]--;
        if (m.feet[act] == 0) {
            m.fallen[act] = true;
        }
        return true;
    }

    private int doNight(Moment m, int more) {
        int gone = 0;
        int warmth = warmth(m.night) + more;
        for (int i = 0; i < told.as.size(); i++) {
            if (up(m, i)) {
                m.feet[i] = Math.max(0, m.feet[i] - melt(m, i, warmth));
                if (m.feet[i] == 0) {
                    m.fallen[i] = true;
                    gone++;
                    int mover = told.carvers.indexOf(told.as.get(i).mover);
                    if (m.carved[mover] == i) {
                        m.hurt[mover] = true;
                    }
                }
            }
        }
        Arrays.fill(m.carved, -1);
        m.told.clear();
        m.night++;
        return gone;
    }

    private boolean isAct(int i) {
        return i >= 0 && i < told.acts.size();
    }

    private boolean isSpot(int i) {
        return i >= 0 && i < told.spots.size();
    }

    private boolean isCarver(int i) {
        return i >= 0 && i < told.carvers.size();
    }

    // ---- the face

    int act(int act, int what) {
        if (!isAct(act)) {
            return -1;
        }
        Act a = told.as.get(act);
        switch (what) {
            case 0: return KINDS.indexOf(a.kind);
            case 1: return now.feet[act];
            case 2: return now.chips[act];
            case 3: return need(act);
            case 4: return up(now, act) ? now.spot[act] : -1;
            case 5: return now.props[act];
            case 6: return inForce(now, act) ? 1 : 0;
            case 7: return now.fallen[act] ? 1 : 0;
            case 8: return up(now, act) ? melt(now, act, warmth(now.night)) : 0;
            default: return -1;
        }
    }

    int carver(int carver, int what) {
        if (!isCarver(carver)) {
            return -2;
        }
        switch (what) {
            case 0: return told.sides.get(carver).equals("ayes") ? 0 : 1;
            case 1: return told.skills.get(carver);
            case 2: return now.carved[carver];
            case 3: return now.hurt[carver] ? 1 : 0;
            default: return -2;
        }
    }

    int force() {
        return forceOf(now);
    }

    int side(int side) {
        if (side != 0 && side != 1) {
            return -1;
        }
        int sum = 0;
        for (int i = 0; i < told.as.size(); i++) {
            int mover = told.carvers.indexOf(told.as.get(i).mover);
            if (inForce(now, i) && told.sides.get(mover).equals(side == 0 ? "ayes" : "noes")) {
                sum += told.as.get(i).worth;
            }
        }
        return sum;
    }

    private boolean kept(boolean done, Moment before) {
        if (done) {
            past.add(before);
            if (past.size() > 16) {
                past.remove(0);
            }
        }
        return done;
    }

    boolean begin(int act, int spot) {
        Moment before = now.copy();
        return isAct(act) && isSpot(spot) && kept(doBegin(now, act, spot), before);
    }

    int carve(int carver, int act) {
        Moment before = now.copy();
        return isCarver(carver) && isAct(act) && kept(doCarve(now, carver, act), before) ? now.chips[act] : -1;
    }

    int prop(int act) {
        Moment before = now.copy();
        return isAct(act) && kept(doProp(now, act), before) ? now.props[act] : -1;
    }

    int torch(int act) {
        Moment before = now.copy();
        return isAct(act) && kept(doTorch(now, act), before) ? now.feet[act] : -1;
    }

    int night() {
        kept(true, now.copy());
        return doNight(now, 0);
    }

    boolean undo() {
        if (past.isEmpty()) {
            return false;
        }
        now = past.remove(past.size() - 1);
        return true;
    }

    int judged(int what) {
        if (what < 0 || what > 2) {
            return -2;
        }
        Moment m = fresh();
        int wrong = -1;
        int bare = -1;
        for (int i = 0; i < lines.size(); i++) {
            String[] line = lines.get(i);
            int a = Integer.parseInt(line[1]);
            int b = Integer.parseInt(line[2]);
            boolean can = true;
            if (line[0].equals("begin")) {
                can = doBegin(m, a, b);
            } else if (line[0].equals("carve")) {
                can = doCarve(m, a, b);
            } else if (line[0].equals("prop")) {
                can = doProp(m, a);
            } else if (line[0].equals("torch")) {
                can = doTorch(m, a);
            } else {
                doNight(m, 0);
                if (forceOf(m) == 0 && bare == -1) {
                    bare = i;
                }
            }
            if (!can && wrong == -1) {
                wrong = i;
            }
        }
        return new int[] {wrong, bare, worthOf(forceOf(m))}[what];
    }

    int falls(int act) {
        if (!isAct(act) || !up(now, act)) {
            return -1;
        }
        Moment m = now.copy();
        for (int n = 1; n <= 40; n++) {
            doNight(m, 0);
            if (m.fallen[act]) {
                return n;
            }
        }
        return -1;
    }

    int clashes() {
        return clashesIn(force());
    }

    private int clashesIn(int bits) {
        int many = 0;
        for (int i = 0; i < 6; i++) {
            for (int j = 0; j < i; j++) {
                if ((bits >> i & 1) == 1 && (bits >> j & 1) == 1 && told.clash.contains(told.pair(i, j))) {
                    many++;
                }
            }
        }
        return many;
    }

    int mend(int what) {
        if (what != 0 && what != 1) {
            return -1;
        }
        int bestSet = -1;
        for (int set = 63; set >= 0; set--) {
            if ((set | force()) == force() && clashesIn(force() - set) == 0
                && (bestSet == -1 || worthOf(set) <= worthOf(bestSet))) {
                bestSet = set;
            }
        }
        return what == 0 ? worthOf(bestSet) : bestSet;
    }

    private int[] bestRow;
    private int bestWorth;

    int work(int nights, int what) {
        if (nights < 1 || nights > 6 || what < 0 || what > told.carvers.size()) {
            return -2;
        }
        bestRow = null;
        bestWorth = -1;
        int[] row = {-1, -1, -1, -1, -1, -1};
        workRows(nights, row, 0, 0);
        return what == 0 ? bestWorth : bestRow[what - 1];
    }

    private void workRows(int nights, int[] row, int carver, int busy) {
        if (carver == told.carvers.size()) {
            int worth = workWorth(nights, row);
            if (worth > bestWorth) {
                bestWorth = worth;
                bestRow = row.clone();
            }
            return;
        }
        if (!now.hurt[carver] && busy < 4) {
            for (int act = 0; act < told.as.size(); act++) {
                if (up(now, act)) {
                    row[carver] = act;
                    workRows(nights, row, carver + 1, busy + 1);
                }
            }
        }
        row[carver] = -1;
        workRows(nights, row, carver + 1, now.hurt[carver] ? busy : busy + 1);
    }

    private int workWorth(int nights, int[] row) {
        Moment m = now.copy();
        for (int n = 0; n < nights; n++) {
            for (int c = 0; c < told.carvers.size(); c++) {
                if (row[c] != -1) {
                    doCarve(m, c, row[c]);
                }
            }
            doNight(m, 0);
        }
        return worthOf(forceOf(m));
    }

    int places(int act) {
        if (act != -1 && !isAct(act)) {
            return -2;
        }
        int waiting = 0;
        int free = 0;
        for (int i = 0; i < told.as.size(); i++) {
            waiting += now.begun[i] ? 0 : 1;
        }
        for (int s = 0; s < told.spots.size(); s++) {
            boolean taken = false;
            for (int i = 0; i < told.as.size(); i++) {
                taken |= up(now, i) && now.spot[i] == s;
            }
            free += taken ? 0 : 1;
        }
        bestRow = null;
        bestWorth = -1;
        placeRows(new int[] {-1, -1, -1, -1, -1, -1}, 0, Math.min(waiting, free), now.copy());
        return act == -1 ? bestWorth : bestRow[act];
    }

    private void placeRows(int[] row, int act, int left, Moment m) {
        if (act == told.as.size()) {
            if (left == 0) {
                int nights = placeNights(row, m);
                if (nights > bestWorth) {
                    bestWorth = nights;
                    bestRow = row.clone();
                }
            }
            return;
        }
        if (left > 0 && !now.begun[act]) {
            for (int s = 0; s < told.spots.size(); s++) {
                Moment with = m.copy();
                if (doBegin(with, act, s)) {
                    row[act] = s;
                    placeRows(row, act + 1, left - 1, with);
                }
            }
        }
        row[act] = -1;
        placeRows(row, act + 1, left, m);
    }

    private int placeNights(int[] row, Moment m) {
        int sum = 0;
        Moment alone = m.copy();
        int[] stood = new int[6];
        for (int n = 0; n < 40; n++) {
            for (int i = 0; i < told.as.size(); i++) {
                stood[i] += row[i] != -1 && !alone.fallen[i] ? 1 : 0;
            }
            doNight(alone, 0);
        }
        for (int i = 0; i < told.as.size(); i++) {
            sum += row[i] == -1 ? 0 : alone.fallen[i] ? stood[i] : 41;
        }
        return sum;
    }

    int thin(int act, int spot, int nights) {
        if (!isAct(act) || !isSpot(spot) || nights < 1 || nights > 30) {
            return -1;
        }
        for (int feet = 1; feet <= 40; feet++) {
            Moment m = fresh();
            m.night = now.night;
            m.begun[act] = true;
            m.spot[act] = spot;
            m.feet[act] = feet;
            for (int n = 0; n < nights; n++) {
                doNight(m, 0);
            }
            if (!m.fallen[act]) {
                return feet;
            }
        }
        return -1;
    }

    int stands(int act, int nights) {
        if (!isAct(act) || !up(now, act) || nights < 1 || nights > 8) {
            return -1;
        }
        BigInteger ways = ways(now.copy(), act, nights);
        return ways.multiply(BigInteger.valueOf(1000000)).divide(BigInteger.TEN.pow(nights)).intValueExact();
    }

    private BigInteger ways(Moment m, int act, int nights) {
        if (m.fallen[act]) {
            return BigInteger.ZERO;
        }
        if (nights == 0) {
            return BigInteger.ONE;
        }
        Moment mild = m.copy();
        doNight(mild, 3);
        Moment cold = m.copy();
        doNight(cold, 0);
        return ways(mild, act, nights - 1).multiply(BigInteger.valueOf(mildness()))
            .add(ways(cold, act, nights - 1).multiply(BigInteger.valueOf(10 - mildness())));
    }

    int propped(int nights) {
        if (nights < 1 || nights > 30) {
            return -1;
        }
        int best = -1;
        int most = worthAfter(now.copy(), nights);
        for (int i = 0; i < told.as.size(); i++) {
            Moment m = now.copy();
            if (doProp(m, i)) {
                int worth = worthAfter(m, nights);
                if (worth > most) {
                    most = worth;
                    best = i;
                }
            }
        }
        return best;
    }

    private int worthAfter(Moment m, int nights) {
        for (int n = 0; n < nights; n++) {
            doNight(m, 0);
        }
        return worthOf(forceOf(m));
    }

    boolean tell(int act, int feet) {
        if (!isAct(act) || !up(now, act) || feet < 0 || feet > 20) {
            return false;
        }
        now.told.put(act, feet);
        return true;
    }

    private int[] feetBy(int set) {
        Moment m = now.copy();
        doNight(m, 0);
        for (int c = 0; c < told.carvers.size(); c++) {
            if ((set >> c & 1) == 1) {
                int act = now.carved[c];
                m.feet[act] = Math.max(0, m.feet[act] - 1);
            }
        }
        return m.feet;
    }

    private List<Integer> goodSets() {
        List<Integer> good = new ArrayList<>();
        for (int set = 0; set < 64; set++) {
            boolean fits = true;
            for (int c = 0; c < 6; c++) {
                fits &= (set >> c & 1) == 0 || c < told.carvers.size() && now.carved[c] != -1;
            }
            if (fits) {
                int[] feet = feetBy(set);
                for (int act : now.told.keySet()) {
                    fits &= feet[act] == now.told.get(act);
                }
            }
            if (fits) {
                good.add(set);
            }
        }
        return good;
    }

    int sets(int what) {
        if (what < 0 || what > 2) {
            return -1;
        }
        List<Integer> good = goodSets();
        if (what == 0) {
            return good.size();
        }
        if (good.isEmpty()) {
            return -1;
        }
        int all = 63;
        int some = 0;
        for (int set : good) {
            all &= set;
            some |= set;
        }
        return what == 1 ? all : some;
    }

    int look() {
        List<Integer> good = goodSets();
        int best = -1;
        int least = good.size();
        for (int i = 0; i < told.as.size(); i++) {
            if (up(now, i) && !now.told.containsKey(i)) {
                TreeMap<Integer, Integer> classes = new TreeMap<>();
                int greatest = 0;
                for (int set : good) {
                    greatest = Math.max(greatest, classes.merge(feetBy(set)[i], 1, Integer::sum));
                }
                if (greatest < least) {
                    least = greatest;
                    best = i;
                }
            }
        }
        return best;
    }

    int rests(int hold, int burn, int loses, int what) {
        for (int n : new int[] {hold, burn, loses}) {
            if (n < 0 || n > 9) {
                throw new NoSuchElementException();
            }
        }
        int[][] mine = {{hold, 0}, {burn, -loses}};
        List<Integer> rests = new ArrayList<>();
        for (int i = 0; i < 2; i++) {
            for (int j = 0; j < 2; j++) {
                boolean better = mine[1 - i][j] > mine[i][j] || mine[1 - j][i] > mine[j][i];
                if (!better) {
                    rests.add(2 * i + j);
                }
            }
        }
        if (what == -1) {
            return rests.size();
        }
        if (what < 0 || what >= rests.size()) {
            throw new NoSuchElementException();
        }
        return rests.get(what);
    }

    private BigInteger g;

    private int draw(int m) {
        g = g.multiply(BigInteger.valueOf(1103515245)).add(BigInteger.valueOf(12345)).mod(BigInteger.valueOf(2147483648L));
        return g.divide(BigInteger.valueOf(65536)).mod(BigInteger.valueOf(m)).intValueExact();
    }

    int decades(int seed, int nights, int what) {
        if (seed < 0 || seed > 9999 || nights < 1 || nights > 60 || what < 0 || what > 2) {
            return -1;
        }
        g = BigInteger.valueOf(seed);
        Moment m = now.copy();
        int worth = 0;
        int gone = 0;
        for (int n = 0; n < nights; n++) {
            if (!told.acts.isEmpty() && !told.spots.isEmpty()) {
                int act = draw(told.acts.size());
                int spot = draw(told.spots.size());
                doBegin(m, act, spot);
            }
            if (!told.acts.isEmpty() && !told.carvers.isEmpty()) {
                for (int c = 0; c < told.carvers.size(); c++) {
                    doCarve(m, c, draw(told.acts.size()));
                }
            }
            gone += doNight(m, draw(10) < mildness() ? 3 : 0);
            worth += worthOf(forceOf(m));
        }
        int hurt = 0;
        for (boolean h : m.hurt) {
            hurt += h ? 1 : 0;
        }
        return what == 0 ? worth : what == 1 ? gone : hurt;
    }

    boolean mark(int mark, boolean back) {
        if (mark < 0 || mark > 3 || back && !marks.containsKey(mark)) {
            return false;
        }
        if (back) {
            now = marks.get(mark).copy();
            past.clear();
        } else {
            marks.put(mark, now.copy());
        }
        return true;
    }

    int count(int what) {
        int standing = 0;
        int gone = 0;
        for (int i = 0; i < told.as.size(); i++) {
            standing |= up(now, i) ? 1 << i : 0;
            gone |= now.fallen[i] ? 1 << i : 0;
        }
        int[] all = {told.spots.size(), told.carvers.size(), told.acts.size(), told.clash.size(), now.night,
            warmth(now.night), standing, gone, worthOf(force()), lines.size(), now.told.size(), past.size(),
            tape.length()};
        return what < 0 || what >= all.length ? -1 : all[what];
    }
}
