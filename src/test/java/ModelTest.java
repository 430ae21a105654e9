import java.util.ArrayList;
import java.util.List;

/** Runs of calls, made up by a fixed rule, on the program and on the slow second writing of the document. */
public final class ModelTest {
    private static final String START = "rnbqkbnr/pppppppp/8/8/8/8/PPPPPPPP/RNBQKBNR w KQkq - 0 1";
    private static long seed;
    private GameHall hall = new GameHall(3);
    private Plain plain = new Plain();
    private final List<String> log = new ArrayList<>();
    /** An object is used for 512 calls at most. */
    private int callsLeft = 512;

    public static void main(String[] args) {
        int runs = Integer.getInteger("runs", 400);
        int from = Integer.getInteger("from", 1);
        for (int run = from; run < from + runs && Check.wrongs() == 0; run++) {
            seed = run * 7919L + 17;
            for (int k = 0; k < 5; k++) {
                below(2);
            }
            new ModelTest().run(run);
        }
        Check.end("ModelTest");
    }

    /** Numbers that are always the same ones, for the same seed. */
    private static int below(int n) {
        seed = seed * 6364136223846793005L + 1442695040888963407L;
        return (int) ((seed >>> 33) % n);
    }

    private static boolean chance(int percent) {
        return below(100) < percent;
    }

    private void same(String what, Check.Call a, Check.Call b) {
        if (callsLeft == 0) {
            return;
        }
        callsLeft--;
        String got = Check.outcome(a);
        String want = Check.outcome(b);
        log.add(what + " -> " + got);
        Check.due(what, got, want);
    }

    private void run(int run) {
        for (int k = 0; k < 6 && callsLeft > 0 && Check.wrongs() == 0; k++) {
            submit(text());
            look();
            for (int j = below(12); j > 0 && Check.wrongs() == 0; j--) {
                act();
            }
            if (chance(60)) {
                look();
            }
        }
        if (Check.wrongs() > 0) {
            System.out.println("run " + run + ":");
            log.forEach(System.out::println);
        }
    }

    // ---- calls ----

    private void submit(String text) {
        log.add("text " + text.replace("\n", "\\n"));
        for (int at = 0; at < text.length(); at += 20) {
            int[] n = Check.numbers(text, at);
            same("tape", () -> hall.tape(n[0], n[1], n[2], n[3], n[4]) ? 1 : 0,
                    () -> plain.tape(n[0], n[1], n[2], n[3], n[4]) ? 1 : 0);
        }
        if (chance(5)) {
            int n = chance(50) ? 0 : 21;
            same("submit " + n, () -> hall.submit(n), () -> plain.submit(n));
        }
        same("submit", () -> hall.submit(Check.tail(text)), () -> plain.submit(Check.tail(text)));
    }

    private void act() {
        int many = plain.legalMany();
        switch (below(9)) {
            case 0:
                same("retreat", () -> hall.retreat() ? 1 : 0, () -> plain.retreat() ? 1 : 0);
                break;
            case 1:
                int depth = below(100) < 90 ? below(3) : below(8) - 2;
                if (depth < 3 || many > 30 || small()) {
                    same("linesTo " + depth, () -> hall.linesTo(depth), () -> plain.linesTo(depth));
                }
                break;
            case 2:
                value(below(100) < 85 ? below(3) : below(8) - 2);
                break;
            case 3:
                same("distanceToMate", () -> hall.distanceToMate(), () -> plain.distanceToMate());
                same("matingMove", () -> hall.matingMove(), () -> plain.matingMove());
                break;
            case 4:
                int i = below(10) - 2;
                int w = below(12) - 2;
                same("historyOf " + i + " " + w, () -> hall.historyOf(i, w), () -> plain.historyOf(i, w));
                break;
            default:
                int place = below(100) < 95 && many > 0 ? below(many) : below(2) * 300 - 1;
                same("proceed " + place, () -> hall.proceed(place), () -> plain.proceed(place));
                break;
        }
    }

    private boolean small() {
        Plain.Position p = plain.positionHere();
        return p == null || Plain.manyMen(p) <= 6;
    }

    private void value(int depth) {
        boolean three = plain.positionHere() != null && Plain.manyMen(plain.positionHere()) <= 3;
        if (depth == 3 && plain.legalMany() <= 30 && !small() || depth == 4 && three && chance(80)) {
            return;
        }
        same("valueAt " + depth, () -> hall.valueAt(depth), () -> plain.valueAt(depth));
        same("bestAt " + depth, () -> hall.bestAt(depth), () -> plain.bestAt(depth));
    }

    private void look() {
        for (int k = -1; k <= 14; k++) {
            int which = k;
            same("status " + k, () -> hall.status(which), () -> plain.status(which));
        }
        same("legalMany", () -> hall.legalMany(), () -> plain.legalMany());
        for (int k = -1; k <= plain.legalMany(); k++) {
            int i = k;
            same("legalMove " + k, () -> hall.legalMove(i), () -> plain.legalMove(i));
            same("spelling " + k, () -> hall.spelling(i), () -> plain.spelling(i));
        }
        for (int k = -1; k < 14; k++) {
            int part = k;
            same("recordAt " + k, () -> hall.recordAt(part), () -> plain.recordAt(part));
        }
        for (int k = chance(30) ? -1 : 60; k <= 64; k++) {
            int square = k;
            same("manOn " + k, () -> hall.manOn(square), () -> plain.manOn(square));
        }
        int rows = plain.status(3);
        for (int i = Math.max(-1, rows - 3); i <= rows; i++) {
            for (int w = -1; w <= 8; w++) {
                int row = i;
                int which = w;
                same("historyOf " + i + " " + w, () -> hall.historyOf(row, which), () -> plain.historyOf(row, which));
            }
        }
    }

    // ---- texts ----

    private String text() {
        String record = record();
        if (chance(8)) {
            return mutated(record);
        }
        Plain walk = new Plain();
        if (put(walk, record) != 0) {
            return record;
        }
        StringBuilder text = new StringBuilder(record);
        int length = chance(20) ? 0 : below(chance(20) ? 60 : 12);
        boolean shuffling = chance(30);
        for (int k = 0; k < length && !walk.listHere().isEmpty(); k++) {
            int place = choose(walk, shuffling);
            text.append(' ').append(Check.unpack(walk.spelling(place)));
            try {
                walk.proceed(place);
            } catch (IllegalStateException e) {
                break;
            }
        }
        return chance(40) ? mutated(text.toString()) : text.toString();
    }

    private static int put(Plain walk, String text) {
        for (int at = 0; at < text.length(); at += 20) {
            int[] n = Check.numbers(text, at);
            walk.tape(n[0], n[1], n[2], n[3], n[4]);
        }
        walk.submit(Check.tail(text));
        return walk.status(1);
    }

    /** Sometimes the way back of what the side did last, so that positions come again. */
    private static int choose(Plain walk, boolean shuffling) {
        List<Integer> list = walk.listHere();
        int rows = walk.status(3);
        if (shuffling && rows > 2 && chance(90)) {
            int last = walk.historyOf(rows - 2, 3);
            int back = last / 64 % 64 + 64 * (last % 64);
            if (list.contains(back)) {
                return list.indexOf(back);
            }
        }
        Plain.Position p = walk.positionHere();
        for (int tries = 0; tries < 6; tries++) {
            int place = below(list.size());
            int move = list.get(place);
            boolean odd = Plain.castles(p, move % 64, move / 64 % 64) || Plain.inPassing(p, move % 64, move / 64 % 64)
                    || Plain.kind(p.men[move % 64]) == 1 && Math.abs(move / 64 % 64 - move % 64) == 16 && chance(50);
            if (odd && chance(80)) {
                return place;
            }
        }
        return below(list.size());
    }

    private static String record() {
        if (chance(15)) {
            return START;
        }
        Plain.Position p = new Plain.Position();
        switch (below(6)) {
            case 0:
                few(p, 1);
                break;
            case 1:
                few(p, 1 + below(4));
                break;
            case 2:
                castling(p);
                break;
            case 3:
                passing(p);
                break;
            case 4:
                few(p, 10 + below(20));
                break;
            default:
                crowd(p);
                break;
        }
        int[] clocks = {0, 0, 0, 1, 48, 97, 98, 99, 100, 101, 147, 148, 149, 150, 998, 999};
        int[] numbers = {1, 1, 2, 40, 998, 999, 9998, 9999};
        p.clock = p.passant == Plain.NONE || chance(3) ? clocks[below(clocks.length)] : 0;
        p.number = numbers[below(numbers.length)];
        return Plain.record(p);
    }

    private static void king(Plain.Position p, int man, int square) {
        p.men[square] = man;
    }

    private static void drop(Plain.Position p, int man) {
        for (int tries = 0; tries < 20; tries++) {
            int square = Plain.kind(man) == 1 && chance(98) ? 8 + below(48) : below(64);
            if (p.men[square] == 0) {
                p.men[square] = man;
                return;
            }
        }
    }

    private static void settle(Plain.Position p) {
        p.side = below(2);
        for (int tries = 0; tries < 2; tries++) {
            if (Plain.find(p, 6) >= 0 && Plain.find(p, 12) >= 0 && Plain.check(p, 1 - p.side)) {
                p.side = 1 - p.side;
            }
        }
    }

    private static void few(Plain.Position p, int many) {
        king(p, 6, below(64));
        drop(p, 12);
        for (int k = 0; k < many; k++) {
            int kind = chance(30) ? 1 : 1 + below(5);
            drop(p, kind + 6 * below(2));
        }
        settle(p);
        passant(p);
    }

    private static void crowd(Plain.Position p) {
        drop(p, 6);
        drop(p, 12);
        int kind = 2 + below(4);
        int side = below(2);
        for (int k = 1 + below(4); k > 0; k--) {
            drop(p, kind + 6 * side);
        }
        for (int k = below(6); k > 0; k--) {
            drop(p, 1 + below(5) + 6 * below(2));
        }
        settle(p);
    }

    private static void castling(Plain.Position p) {
        king(p, 6, chance(95) ? 4 : 3);
        king(p, 12, 60);
        int[] corners = {7, 0, 63, 56};
        for (int k = 0; k < 4; k++) {
            if (chance(80)) {
                p.men[corners[k]] = k < 2 ? 4 : 10;
                p.rights |= chance(80) ? 1 << k : 0;
            } else if (chance(2)) {
                p.rights |= 1 << k;
            }
        }
        for (int k = below(8); k > 0; k--) {
            drop(p, 1 + below(5) + 6 * below(2));
        }
        settle(p);
    }

    private static void passing(Plain.Position p) {
        drop(p, 6);
        drop(p, 12);
        for (int k = below(6); k > 0; k--) {
            drop(p, 2 + below(4) + 6 * below(2));
        }
        for (int k = 2 + below(4); k > 0; k--) {
            int square = 24 + below(16);
            int man = square < 32 ? chance(60) ? 1 : 7 : chance(60) ? 7 : 1;
            p.men[square] = p.men[square] == 0 ? man : p.men[square];
        }
        for (int k = below(4); k > 0; k--) {
            drop(p, 1 + 6 * below(2));
        }
        settle(p);
        passant(p);
    }

    private static void passant(Plain.Position p) {
        if (chance(3)) {
            p.passant = below(8);
            return;
        }
        int base = p.side == 1 ? 8 : 48;
        int step = p.side == 1 ? 8 : -8;
        for (int file = 0; file < 8; file++) {
            if (p.men[base + file] == 0 && p.men[base + step + file] == 0
                    && p.men[base + 2 * step + file] == (p.side == 1 ? 1 : 7) && chance(70)) {
                p.passant = file;
                return;
            }
        }
    }

    private static String mutated(String text) {
        String signs = " -+#x/0123456789abcdefghKQRBNPkqrbnpwO~\0\n\u00ff";
        StringBuilder out = new StringBuilder(text);
        int at = chance(50) ? below(out.length()) : Math.max(0, out.length() - 1 - below(12));
        char sign = signs.charAt(below(signs.length()));
        switch (below(9)) {
            case 0:
                out.setCharAt(at, sign);
                break;
            case 1:
                out.deleteCharAt(at);
                break;
            case 2:
                out.setLength(at);
                break;
            case 3:
                out.append(chance(50) ? " " : "" + sign);
                break;
            case 4:
                return chance(40) ? misspelled(text) : respelled(text);
            case 5:
                return oddlySpelled(chance(60) ? respelled(text) : text);
            case 6:
                return text + " " + scribble();
            default:
                out.insert(at, sign);
                break;
        }
        return out.toString();
    }

    /** The last move with a sign, an origin or an x that it should not have, or without one that it should. */
    private static String misspelled(String text) {
        int blank = text.lastIndexOf(' ');
        String ahead = text.substring(0, blank + 1);
        String word = text.substring(blank + 1);
        if (word.isEmpty() || word.charAt(0) >= '0' && word.charAt(0) <= '9' && !word.startsWith("0-0")) {
            return text + "+";
        }
        String bare = word.replaceAll("[+#]", "");
        switch (below(5)) {
            case 0:
                return ahead + bare + (word.equals(bare) ? "+" : "");
            case 1:
                return ahead + bare + "#";
            case 2:
                return ahead + word.charAt(0) + (char) ('a' + below(8)) + word.substring(1);
            case 3:
                return ahead + word.charAt(0) + (1 + below(8)) + word.substring(1);
            default:
                return ahead + (word.contains("x") ? word.replace("x", "") : word.charAt(0) + "x" + word.substring(1));
        }
    }

    /** Some bytes, often bytes 0, at the beginning of a word, inside it or at its end. */
    private static String oddlySpelled(String text) {
        String[] words = text.split(" ", -1);
        int which = chance(70) ? words.length - 1 : below(words.length);
        String word = words[which];
        int at = chance(40) ? 0 : chance(40) ? word.length() : below(word.length() + 1);
        String odd = ("" + (char) (chance(60) ? 0 : below(256))).repeat(1 + below(chance(80) ? 3 : 9));
        words[which] = word.substring(0, at) + odd + word.substring(at);
        return String.join(" ", words);
    }

    /** A word of signs that spellings have, and of bytes 0, in any order. */
    private static String scribble() {
        String signs = chance(50) ? "0-0-\0+#" : "KQRBNabh18x+#0-\0";
        StringBuilder word = new StringBuilder();
        for (int k = below(9); k > 0; k--) {
            word.append(signs.charAt(below(signs.length())));
        }
        return word.toString();
    }

    /** A move behind that has the form, and is mostly wrong. */
    private static String respelled(String text) {
        String word = "";
        switch (below(4)) {
            case 0:
                word = "0-0";
                break;
            case 1:
                word = "0-0-0";
                break;
            case 2:
                word = "" + "KQRBN".charAt(below(5)) + (chance(30) ? "" + (char) ('a' + below(8)) : "")
                        + (chance(30) ? "" + (1 + below(8)) : "") + (chance(30) ? "x" : "")
                        + (char) ('a' + below(8)) + (1 + below(8));
                break;
            default:
                word = (chance(30) ? (char) ('a' + below(8)) + "x" : "") + (char) ('a' + below(8)) + (1 + below(8))
                        + (chance(40) ? "" + "QRBN".charAt(below(4)) : "");
                break;
        }
        return text + " " + word + (chance(20) ? "+" : chance(10) ? "#" : "");
    }
}
