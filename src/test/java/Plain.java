import java.util.ArrayList;
import java.util.List;
import java.util.regex.Pattern;

/**
 * The document written a second time, as slowly and as near to its words as can be, to hold the program against.
 * It has the program's face; nothing of it is taken from there.
 */
final class Plain {
    static final int NONE = -1;

    /** A POSITION. */
    static final class Position {
        final int[] men = new int[64];
        int side;
        int rights;
        int passant = NONE;
        int clock;
        int number = 1;

        Position copy() {
            Position p = new Position();
            System.arraycopy(men, 0, p.men, 0, 64);
            p.side = side;
            p.rights = rights;
            p.passant = passant;
            p.clock = clock;
            p.number = number;
            return p;
        }
    }

    // ---- men ----

    static int kind(int man) {
        return man == 0 ? 0 : (man - 1) % 6 + 1;
    }

    /** 0 white, 1 black, NONE for an empty square. */
    static int owner(int man) {
        return man == 0 ? NONE : (man - 1) / 6;
    }

    static int file(int square) {
        return square % 8;
    }

    static int rank(int square) {
        return square / 8;
    }

    // ---- ATTACKED ----

    /** Whether the man on a square attacks another square. */
    static boolean attacks(Position p, int from, int to) {
        int man = p.men[from];
        int df = file(to) - file(from);
        int dr = rank(to) - rank(from);
        int af = Math.abs(df);
        int ar = Math.abs(dr);
        switch (kind(man)) {
            case 1:
                return af == 1 && dr == (owner(man) == 0 ? 1 : -1);
            case 2:
                return af == 1 && ar == 2 || af == 2 && ar == 1;
            case 6:
                return Math.max(af, ar) == 1;
            case 3:
                return af == ar && af > 0 && clear(p, from, to);
            case 4:
                return (af == 0) != (ar == 0) && clear(p, from, to);
            case 5:
                return (af == ar && af > 0 || (af == 0) != (ar == 0)) && clear(p, from, to);
            default:
                return false;
        }
    }

    /** Whether nothing is between two squares of a line. */
    static boolean clear(Position p, int from, int to) {
        int step = Integer.signum(file(to) - file(from)) + 8 * Integer.signum(rank(to) - rank(from));
        for (int s = from + step; s != to; s += step) {
            if (p.men[s] != 0) {
                return false;
            }
        }
        return true;
    }

    static boolean attacked(Position p, int square, int by) {
        for (int s = 0; s < 64; s++) {
            if (owner(p.men[s]) == by && attacks(p, s, square)) {
                return true;
            }
        }
        return false;
    }

    static int find(Position p, int man) {
        for (int s = 0; s < 64; s++) {
            if (p.men[s] == man) {
                return s;
            }
        }
        return NONE;
    }

    static boolean check(Position p, int side) {
        return attacked(p, find(p, 6 + 6 * side), 1 - side);
    }

    // ---- MOVE, LEGAL, LIST ----

    static boolean inPassing(Position p, int from, int to) {
        return kind(p.men[from]) == 1 && file(from) != file(to) && p.men[to] == 0;
    }

    static boolean castles(Position p, int from, int to) {
        return kind(p.men[from]) == 6 && Math.abs(file(from) - file(to)) == 2;
    }

    private static boolean goes(Position p, int from, int to) {
        int man = p.men[from];
        if (owner(man) != p.side || owner(p.men[to]) == p.side || kind(p.men[to]) == 6) {
            return false;
        }
        if (kind(man) == 6 && castles(p, from, to)) {
            return canCastle(p, from, to);
        }
        return kind(man) == 1 ? pawnGoes(p, from, to) : attacks(p, from, to);
    }

    private static boolean pawnGoes(Position p, int from, int to) {
        int up = p.side == 0 ? 1 : -1;
        int dr = (rank(to) - rank(from)) * up;
        if (file(from) == file(to)) {
            boolean second = rank(from) == (p.side == 0 ? 1 : 6);
            return p.men[to] == 0 && (dr == 1 || dr == 2 && second && p.men[from + 8 * up] == 0);
        }
        if (!attacks(p, from, to)) {
            return false;
        }
        if (p.men[to] != 0) {
            return true;
        }
        return file(to) == p.passant && rank(to) == (p.side == 0 ? 5 : 2)
                && p.men[to - 8 * up] == 1 + 6 * (1 - p.side);
    }

    private static boolean canCastle(Position p, int from, int to) {
        int home = p.side == 0 ? 4 : 60;
        if (from != home || to != home + 2 && to != home - 2) {
            return false;
        }
        boolean kings = to > from;
        int right = (kings ? 1 : 2) << 2 * p.side;
        int corner = kings ? home + 3 : home - 4;
        int passed = (from + to) / 2;
        return (p.rights & right) != 0 && p.men[corner] == 4 + 6 * p.side && clear(p, from, corner)
                && !attacked(p, from, 1 - p.side) && !attacked(p, passed, 1 - p.side);
    }

    static Position after(Position p, int move) {
        int from = move % 64;
        int to = move / 64 % 64;
        int become = move / 4096;
        Position q = p.copy();
        int man = p.men[from];
        boolean took = p.men[to] != 0;
        q.men[from] = 0;
        q.men[to] = become == 0 ? man : become + 6 * p.side;
        if (inPassing(p, from, to)) {
            q.men[rank(from) * 8 + file(to)] = 0;
            took = true;
        }
        if (castles(p, from, to)) {
            q.men[to > from ? from + 3 : from - 4] = 0;
            q.men[(from + to) / 2] = 4 + 6 * p.side;
        }
        if (kind(man) == 6) {
            q.rights &= p.side == 0 ? 12 : 3;
        }
        int[] corners = {7, 0, 63, 56};
        for (int k = 0; k < 4; k++) {
            if (from == corners[k] || to == corners[k]) {
                q.rights &= ~(1 << k);
            }
        }
        q.passant = NONE;
        if (kind(man) == 1 && Math.abs(rank(from) - rank(to)) == 2) {
            for (int s = 0; s < 64; s++) {
                if (rank(s) == rank(to) && Math.abs(file(s) - file(to)) == 1 && p.men[s] == 1 + 6 * (1 - p.side)) {
                    q.passant = file(to);
                }
            }
        }
        q.clock = kind(man) == 1 || took ? 0 : p.clock + 1;
        q.number = p.number + p.side;
        q.side = 1 - p.side;
        return q;
    }

    static List<Integer> list(Position p) {
        List<Integer> list = new ArrayList<>();
        for (int from = 0; from < 64; from++) {
            if (owner(p.men[from]) != p.side) {
                continue;
            }
            for (int to = 0; to < 64; to++) {
                if (!goes(p, from, to)) {
                    continue;
                }
                boolean last = kind(p.men[from]) == 1 && (rank(to) == 0 || rank(to) == 7);
                for (int become = 0; become <= 5; become++) {
                    int move = from + 64 * to + 4096 * become;
                    if ((last ? become >= 2 : become == 0) && !check(after(p, move), p.side)) {
                        list.add(move);
                    }
                }
            }
        }
        return list;
    }

    // ---- SPELLING ----

    private static String squareName(int square) {
        return "" + (char) ('a' + file(square)) + (char) ('1' + rank(square));
    }

    static String spell(Position p, int move) {
        Position q = after(p, move);
        String sign = "";
        if (check(q, q.side)) {
            sign = list(q).isEmpty() ? "#" : "+";
        }
        return bare(p, move) + sign;
    }

    static String bare(Position p, int move) {
        int from = move % 64;
        int to = move / 64 % 64;
        int become = move / 4096;
        int kind = kind(p.men[from]);
        if (castles(p, from, to)) {
            return to > from ? "0-0" : "0-0-0";
        }
        if (kind == 1) {
            String ahead = file(from) == file(to) ? "" : (char) ('a' + file(from)) + "x";
            return ahead + squareName(to) + (become == 0 ? "" : "" + "  NBRQ".charAt(become));
        }
        String x = p.men[to] == 0 ? "" : "x";
        return "  NBRQK".charAt(kind) + origin(p, from, to) + x + squareName(to);
    }

    private static String origin(Position p, int from, int to) {
        List<Integer> rivals = new ArrayList<>();
        for (int move : list(p)) {
            int other = move % 64;
            if (move / 64 % 64 == to && other != from && p.men[other] == p.men[from]) {
                rivals.add(other);
            }
        }
        if (rivals.isEmpty()) {
            return "";
        }
        if (rivals.stream().noneMatch(r -> file(r) == file(from))) {
            return squareName(from).substring(0, 1);
        }
        if (rivals.stream().noneMatch(r -> rank(r) == rank(from))) {
            return squareName(from).substring(1);
        }
        return squareName(from);
    }

    // ---- RECORD ----

    static String record(Position p) {
        StringBuilder out = new StringBuilder();
        for (int rank = 7; rank >= 0; rank--) {
            StringBuilder row = new StringBuilder();
            for (int f = 0; f < 8; f++) {
                row.append(".PNBRQKpnbrqk".charAt(p.men[rank * 8 + f]));
            }
            String text = row.toString();
            for (int n = 8; n >= 1; n--) {
                text = text.replace(".".repeat(n), "" + n);
            }
            out.append(text).append(rank > 0 ? "/" : "");
        }
        out.append(p.side == 0 ? " w " : " b ");
        String rights = "";
        for (int k = 0; k < 4; k++) {
            rights += (p.rights >> k & 1) != 0 ? "" + "KQkq".charAt(k) : "";
        }
        out.append(rights.isEmpty() ? "-" : rights).append(' ');
        out.append(p.passant == NONE ? "-" : "" + (char) ('a' + p.passant) + (p.side == 0 ? '6' : '3'));
        return out.append(' ').append(p.clock).append(' ').append(p.number).toString();
    }

    private static final Pattern RANK = Pattern.compile("[PNBRQKpnbrqk1-8]{1,8}");
    private static final Pattern FORM = Pattern.compile(
            "(0-0|0-0-0|[KQRBN][a-h]?[1-8]?x?[a-h][1-8]|([a-h]x)?[a-h][1-8][QRBN]?)[+#]?");

    /** The fault of the men's field, 0 or 1; the men come to the position. */
    private static boolean readMen(Position p, String field) {
        String[] ranks = field.split("/", -1);
        if (ranks.length != 8) {
            return false;
        }
        for (int k = 0; k < 8; k++) {
            String row = ranks[k];
            if (!RANK.matcher(row).matches() || Pattern.compile("[1-8][1-8]").matcher(row).find()) {
                return false;
            }
            String wide = row;
            for (int n = 1; n <= 8; n++) {
                wide = wide.replace("" + n, ".".repeat(n));
            }
            if (wide.length() != 8) {
                return false;
            }
            for (int f = 0; f < 8; f++) {
                p.men[(7 - k) * 8 + f] = ".PNBRQKpnbrqk".indexOf(wide.charAt(f));
            }
        }
        return true;
    }

    /** The fault of a RECORD's fields (1 .. 6), or of what it says (7 .. 11), or 0. */
    private static int readRecord(Position p, String[] parts) {
        if (!readMen(p, parts[0]) || parts.length < 2) {
            return 1;
        }
        if (!parts[1].matches("[wb]") || parts.length < 3) {
            return 2;
        }
        p.side = parts[1].equals("w") ? 0 : 1;
        if (!parts[2].matches("-|(?=.)K?Q?k?q?") || parts.length < 4) {
            return 3;
        }
        for (int k = 0; k < 4; k++) {
            p.rights |= parts[2].indexOf("KQkq".charAt(k)) >= 0 ? 1 << k : 0;
        }
        if (!parts[3].matches(p.side == 0 ? "-|[a-h]6" : "-|[a-h]3") || parts.length < 5) {
            return 4;
        }
        p.passant = parts[3].equals("-") ? NONE : parts[3].charAt(0) - 'a';
        if (!parts[4].matches("0|[1-9][0-9]{0,2}") || parts.length < 6) {
            return 5;
        }
        p.clock = Integer.parseInt(parts[4]);
        if (!parts[5].matches("[1-9][0-9]{0,3}")) {
            return 6;
        }
        p.number = Integer.parseInt(parts[5]);
        return rightness(p);
    }

    private static int rightness(Position p) {
        int[] many = new int[13];
        boolean pawnAtTheEnds = false;
        for (int s = 0; s < 64; s++) {
            many[p.men[s]]++;
            pawnAtTheEnds |= kind(p.men[s]) == 1 && (rank(s) == 0 || rank(s) == 7);
        }
        if (many[6] != 1 || many[12] != 1) {
            return 7;
        }
        for (int c = 0; c <= 6; c += 6) {
            int above = Math.max(0, many[c + 2] - 2) + Math.max(0, many[c + 3] - 2)
                    + Math.max(0, many[c + 4] - 2) + Math.max(0, many[c + 5] - 1);
            if (many[c + 1] > 8 || above > 8 - many[c + 1]) {
                return 8;
            }
        }
        if (pawnAtTheEnds) {
            return 8;
        }
        int[] kings = {4, 4, 60, 60};
        int[] corners = {7, 0, 63, 56};
        for (int k = 0; k < 4; k++) {
            int colour = k < 2 ? 0 : 6;
            if ((p.rights >> k & 1) != 0 && (p.men[kings[k]] != 6 + colour || p.men[corners[k]] != 4 + colour)) {
                return 9;
            }
        }
        if (p.passant != NONE) {
            int[] ranks = p.side == 1 ? new int[] {3, 2, 1} : new int[] {4, 5, 6};
            if (p.men[ranks[0] * 8 + p.passant] != (p.side == 1 ? 1 : 7) || p.men[ranks[1] * 8 + p.passant] != 0
                    || p.men[ranks[2] * 8 + p.passant] != 0 || p.clock != 0) {
                return 10;
            }
        }
        return check(p, 1 - p.side) ? 11 : 0;
    }

    /** The position of a record that is right. */
    static Position read(String record) {
        Position p = new Position();
        if (readRecord(p, record.split(" ", -1)) != 0) {
            throw new IllegalArgumentException(record);
        }
        return p;
    }

    // ---- GAME ----

    private List<Position> game = null;
    private List<Integer> moves = null;
    private final StringBuilder tape = new StringBuilder();
    private int fault = 0;
    private int faultMove = NONE;
    private int texts = 0;

    private static int passingFile(Position p) {
        for (int move : list(p)) {
            if (inPassing(p, move % 64, move / 64 % 64)) {
                return move / 64 % 8;
            }
        }
        return NONE;
    }

    private static boolean same(Position a, Position b) {
        return java.util.Arrays.equals(a.men, b.men) && a.side == b.side && a.rights == b.rights
                && passingFile(a) == passingFile(b);
    }

    private static int count(List<Position> game, int i) {
        int n = 0;
        for (int k = 0; k <= i; k++) {
            n += same(game.get(k), game.get(i)) ? 1 : 0;
        }
        return n;
    }

    private static boolean dead(Position p) {
        List<Integer> rest = new ArrayList<>();
        for (int s = 0; s < 64; s++) {
            if (p.men[s] != 0 && kind(p.men[s]) != 6) {
                rest.add(s);
            }
        }
        if (rest.isEmpty()) {
            return true;
        }
        if (rest.size() == 1) {
            int kind = kind(p.men[rest.get(0)]);
            return kind == 2 || kind == 3;
        }
        if (rest.size() != 2) {
            return false;
        }
        int a = rest.get(0);
        int b = rest.get(1);
        return kind(p.men[a]) == 3 && kind(p.men[b]) == 3 && owner(p.men[a]) != owner(p.men[b])
                && (file(a) + rank(a)) % 2 == (file(b) + rank(b)) % 2;
    }

    private static int verdict(List<Position> game, int i) {
        Position p = game.get(i);
        boolean none = list(p).isEmpty();
        if (none) {
            return check(p, p.side) ? 1 : 2;
        }
        if (dead(p)) {
            return 3;
        }
        int count = count(game, i);
        if (count >= 5) {
            return 4;
        }
        if (p.clock >= 150) {
            return 5;
        }
        boolean c = count >= 3;
        boolean k = p.clock >= 100;
        return c && k ? 8 : c ? 6 : k ? 7 : 0;
    }

    private static boolean ended(List<Position> game) {
        int v = verdict(game, game.size() - 1);
        return v >= 1 && v <= 5;
    }

    // ---- the face ----

    boolean tape(int a, int b, int c, int d, int e) {
        if (tape.length() >= 8180) {
            return false;
        }
        for (int number : new int[] {a, b, c, d, e}) {
            for (int shift = 24; shift >= 0; shift -= 8) {
                tape.append((char) (number >> shift & 255));
            }
        }
        return true;
    }

    int submit(int n) {
        if (n < 1 || n > 20) {
            throw new IllegalArgumentException();
        }
        String text = tape.length() == 0 ? "" : tape.substring(0, tape.length() - (20 - n));
        tape.setLength(0);
        faultMove = NONE;
        String[] parts = text.split(" ", -1);
        Position first = new Position();
        fault = readRecord(first, parts);
        if (fault != 0) {
            return NONE;
        }
        List<Position> row = new ArrayList<>();
        List<Integer> made = new ArrayList<>();
        row.add(first);
        for (int k = 6; k < parts.length; k++) {
            fault = readMove(row, made, parts[k]);
            if (fault != 0) {
                faultMove = k - 6;
                return NONE;
            }
        }
        game = row;
        moves = made;
        texts++;
        return moves.size();
    }

    private static int readMove(List<Position> row, List<Integer> made, String word) {
        Position p = row.get(row.size() - 1);
        if (ended(row) || made.size() >= 600) {
            return 20;
        }
        if (!FORM.matcher(word).matches()) {
            return 21;
        }
        String bare = word.endsWith("+") || word.endsWith("#") ? word.substring(0, word.length() - 1) : word;
        boolean some = false;
        for (int move : list(p)) {
            if (!meant(p, move, bare)) {
                continue;
            }
            some = true;
            if (bare(p, move).equals(bare)) {
                if (!spell(p, move).equals(word)) {
                    return 24;
                }
                row.add(after(p, move));
                made.add(move);
                return 0;
            }
        }
        return some ? 23 : 22;
    }

    private static boolean meant(Position p, int move, String bare) {
        int from = move % 64;
        int to = move / 64 % 64;
        if (castles(p, from, to) || bare.startsWith("0")) {
            return castles(p, from, to) && bare.equals(to > from ? "0-0" : "0-0-0");
        }
        int kind = Math.max(1, "??NBRQK".indexOf(bare.charAt(0)));
        String target = bare;
        int become = 0;
        if (kind == 1 && "NBRQ".indexOf(bare.charAt(bare.length() - 1)) >= 0) {
            become = "??NBRQ".indexOf(bare.charAt(bare.length() - 1));
            target = bare.substring(0, bare.length() - 1);
        }
        return kind(p.men[from]) == kind && become == move / 4096 && target.endsWith(squareName(to));
    }

    private Position here() {
        return game.get(game.size() - 1);
    }

    int proceed(int i) {
        if (game == null || ended(game) || moves.size() >= 600) {
            throw new IllegalStateException();
        }
        List<Integer> list = list(here());
        if (i < 0 || i >= list.size()) {
            throw new IndexOutOfBoundsException();
        }
        moves.add(list.get(i));
        game.add(after(here(), list.get(i)));
        return verdict(game, game.size() - 1);
    }

    boolean retreat() {
        if (game == null || moves.isEmpty()) {
            return false;
        }
        moves.remove(moves.size() - 1);
        game.remove(game.size() - 1);
        return true;
    }

    int legalMany() {
        return game == null ? 0 : list(here()).size();
    }

    int legalMove(int i) {
        if (i < 0 || i >= legalMany()) {
            throw new IndexOutOfBoundsException();
        }
        return list(here()).get(i);
    }

    static long pack(String text) {
        long packed = 0;
        for (int k = 0; k < 8; k++) {
            packed = packed * 256 + (k < text.length() ? text.charAt(k) : 0);
        }
        return packed;
    }

    long spelling(int i) {
        return pack(spell(here2(i), legalMove(i)));
    }

    private Position here2(int i) {
        legalMove(i);
        return here();
    }

    long recordAt(int k) {
        if (game == null || k < 0 || k > 1000) {
            return 0;
        }
        String record = record(here());
        return 8 * k >= record.length() ? 0 : pack(record.substring(8 * k));
    }

    int manOn(int square) {
        return game == null || square < 0 || square > 63 ? NONE : here().men[square];
    }

    static long lines(Position p, int depth) {
        if (depth == 0) {
            return 1;
        }
        long n = 0;
        for (int move : list(p)) {
            n += lines(after(p, move), depth - 1);
        }
        return n;
    }

    long linesTo(int depth) {
        if (game == null) {
            throw new IllegalStateException();
        }
        if (!(depth >= 0 && depth <= 2 || depth == 3 && legalMany() <= 30)) {
            throw new IllegalArgumentException();
        }
        return lines(here(), depth);
    }

    static int manyMen(Position p) {
        int n = 0;
        for (int man : p.men) {
            n += man != 0 ? 1 : 0;
        }
        return n;
    }

    private static int step(int v) {
        return -v < -900 ? -v + 1 : -v > 900 ? -v - 1 : -v;
    }

    static int value(Position p, int d) {
        List<Integer> list = list(p);
        if (list.isEmpty()) {
            return check(p, p.side) ? -1000 : 0;
        }
        if (d == 0) {
            int[] worth = {0, 1, 3, 3, 5, 9, 0};
            int sum = 0;
            for (int man : p.men) {
                sum += man == 0 ? 0 : owner(man) == p.side ? worth[kind(man)] : -worth[kind(man)];
            }
            return sum;
        }
        int greatest = Integer.MIN_VALUE;
        for (int move : list) {
            greatest = Math.max(greatest, step(value(after(p, move), d - 1)));
        }
        return greatest;
    }

    private void lookable(int depth) {
        if (game == null) {
            throw new IllegalStateException();
        }
        boolean fine = depth >= 0 && depth <= 2 || depth == 3 && legalMany() <= 30
                || manyMen(here()) <= 3 && depth >= 0 && depth <= 4;
        if (!fine) {
            throw new IllegalArgumentException();
        }
    }

    int valueAt(int depth) {
        lookable(depth);
        return value(here(), depth);
    }

    int bestAt(int depth) {
        lookable(depth);
        return best(here(), depth);
    }

    static int best(Position p, int depth) {
        List<Integer> list = list(p);
        if (depth == 0 || list.isEmpty()) {
            return NONE;
        }
        int best = 0;
        int greatest = Integer.MIN_VALUE;
        for (int k = 0; k < list.size(); k++) {
            int value = step(value(after(p, list.get(k)), depth - 1));
            if (value > greatest) {
                greatest = value;
                best = k;
            }
        }
        return best;
    }

    int distanceToMate() {
        if (game == null) {
            throw new IllegalStateException();
        }
        return PlainEndings.distance(here());
    }

    int matingMove() {
        int distance = distanceToMate();
        if (distance <= 0) {
            return NONE;
        }
        List<Integer> list = list(here());
        for (int k = 0; k < list.size(); k++) {
            if (PlainEndings.distance(after(here(), list.get(k))) == distance - 1) {
                return k;
            }
        }
        throw new AssertionError();
    }

    int historyOf(int i, int w) {
        if (game == null || i < 0 || i >= game.size() || w < 0 || w > 7) {
            throw new IndexOutOfBoundsException();
        }
        Position p = game.get(i);
        switch (w) {
            case 0:
                return count(game, i);
            case 1:
                return p.clock;
            case 2:
                return verdict(game, i);
            case 3:
                return i == 0 ? NONE : moves.get(i - 1);
            case 4:
                return list(p).size();
            case 5:
                return check(p, p.side) ? 1 : 0;
            case 6:
                int first = 0;
                while (!same(game.get(first), p)) {
                    first++;
                }
                return first;
            default:
                return passingFile(p);
        }
    }

    int status(int which) {
        boolean no = game == null;
        switch (which) {
            case 0:
                return tape.length();
            case 1:
                return fault;
            case 2:
                return faultMove;
            case 3:
                return no ? 0 : game.size();
            case 4:
                return no ? NONE : verdict(game, game.size() - 1);
            case 5:
                return no ? NONE : here().side;
            case 6:
                return no ? NONE : here().rights;
            case 7:
                return no ? NONE : here().passant;
            case 8:
                return no ? NONE : here().clock;
            case 9:
                return no ? NONE : here().number;
            case 10:
                return no ? 0 : manyMen(here());
            case 11:
            case 12:
                int ones = 0;
                int most = 0;
                for (int i = 0; !no && i < game.size(); i++) {
                    int count = count(game, i);
                    ones += count == 1 ? 1 : 0;
                    most = Math.max(most, count);
                }
                return which == 11 ? ones : most;
            case 13:
                return texts;
            default:
                return NONE;
        }
    }

    /** The texts of a new game can be made from these. */
    List<Integer> listHere() {
        return game == null ? new ArrayList<>() : list(here());
    }

    Position positionHere() {
        return game == null ? null : here();
    }
}
