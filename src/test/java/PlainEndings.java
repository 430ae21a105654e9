import java.util.Arrays;
import java.util.stream.IntStream;

/**
 * The DISTANCE by the document's words alone: all positions of two kings and one white man, each looked at anew
 * for every number of half moves, as long as one more is found. (Black's men are looked up turned over.)
 */
final class PlainEndings {
    private static final int NONE = -1;
    private static byte[] table = null;
    /** Where a man can go, at (kind * 64 + square) * 64 + its king's square; where a king can go. */
    private static int[][] reaches;
    private static int[][] beside;

    private PlainEndings() {
    }

    /** kind 1 .. 5, the man's square, its king, the king alone, 0 if the man's side is to move. */
    private static int index(int kind, int man, int own, int other, int side) {
        return (((kind * 64 + man) * 64 + own) * 64 + other) * 2 + side;
    }

    static int distance(Plain.Position p) {
        if (p.rights != 0 || Plain.manyMen(p) != 3) {
            return NONE;
        }
        for (int s = 0; s < 64; s++) {
            int kind = Plain.kind(p.men[s]);
            if (kind != 0 && kind != 6) {
                int owner = Plain.owner(p.men[s]);
                int turn = owner == 0 ? 0 : 56;
                int own = Plain.find(p, 6 + 6 * owner) ^ turn;
                int other = Plain.find(p, 12 - 6 * owner) ^ turn;
                return table()[index(kind, s ^ turn, own, other, p.side == owner ? 0 : 1)];
            }
        }
        return NONE;
    }

    static byte[] table() {
        if (table == null) {
            table = build();
        }
        return table;
    }

    private static boolean near(int a, int b) {
        return Math.max(Math.abs(a % 8 - b % 8), Math.abs(a / 8 - b / 8)) <= 1;
    }

    /** Whether a white man on a square attacks a target, with just one other square that may be in its way. */
    private static boolean hits(int kind, int man, int target, int between) {
        int df = target % 8 - man % 8;
        int dr = target / 8 - man / 8;
        int af = Math.abs(df);
        int ar = Math.abs(dr);
        boolean straight = (af == 0) != (ar == 0);
        boolean askew = af == ar && af > 0;
        if (kind == 1) {
            return af == 1 && dr == 1;
        }
        if (kind == 2) {
            return af * ar == 2;
        }
        if (!(kind != 4 && askew || kind != 3 && straight)) {
            return false;
        }
        int step = Integer.signum(df) + 8 * Integer.signum(dr);
        for (int s = man + step; s != target; s += step) {
            if (s == between) {
                return false;
            }
        }
        return true;
    }

    private static boolean exists(int kind, int man, int own, int other, int side) {
        if (man == own || man == other || near(own, other) || kind == 1 && (man < 8 || man > 55)) {
            return false;
        }
        return side == 1 || !hits(kind, man, other, own);
    }

    private static byte[] build() {
        byte[] far = new byte[6 * 64 * 64 * 64 * 2];
        Arrays.fill(far, (byte) NONE);
        reaches = new int[6 * 64 * 64][];
        for (int i = 64 * 64; i < reaches.length; i++) {
            reaches[i] = reach(i >> 12, i >> 6 & 63, i & 63);
        }
        beside = new int[64][];
        for (int i = 0; i < 64; i++) {
            int square = i;
            beside[i] = IntStream.range(0, 64).filter(to -> to != square && near(to, square)).toArray();
        }
        int[] open = IntStream.range(index(1, 0, 0, 0, 0), far.length)
                .filter(i -> exists(i >> 19, i >> 13 & 63, i >> 7 & 63, i >> 1 & 63, i & 1)).toArray();
        // a round without a find is not the end yet: it was one side's only
        int without = 0;
        for (int n = 0; without < 2; n++) {
            int round = n;
            int[] now = Arrays.stream(open).parallel().filter(i -> due(far, i, round)).toArray();
            for (int i : now) {
                far[i] = (byte) n;
            }
            open = Arrays.stream(open).filter(i -> far[i] == NONE).toArray();
            without = now.length == 0 ? without + 1 : 0;
        }
        return far;
    }

    /** Where a man can go, its own king in the way or not. */
    private static int[] reach(int kind, int man, int own) {
        return IntStream.range(0, 64).filter(to -> to != man && to != own && hits(kind, man, to, own)).toArray();
    }

    private static boolean due(byte[] far, int i, int n) {
        int kind = i >> 19;
        int man = i >> 13 & 63;
        int own = i >> 7 & 63;
        int other = i >> 1 & 63;
        if ((i & 1) == n % 2) {
            return false;
        }
        return n % 2 == 0 ? lost(far, kind, man, own, other, n) : won(far, kind, man, own, other, n);
    }

    private static boolean lost(byte[] far, int kind, int man, int own, int other, int n) {
        boolean moves = false;
        for (int to : beside[other]) {
            if (near(to, own) || to != man && hits(kind, man, to, own)) {
                continue;
            }
            moves = true;
            if (to == man || far[index(kind, man, own, to, 0)] == NONE) {
                return false;
            }
        }
        return moves ? n > 0 : n == 0 && hits(kind, man, other, own);
    }

    private static boolean won(byte[] far, int kind, int man, int own, int other, int n) {
        for (int to : beside[own]) {
            if (to != man && !near(to, other) && far[index(kind, man, to, other, 1)] == n - 1) {
                return true;
            }
        }
        if (kind == 1) {
            return wonByPawn(far, man, own, other, n);
        }
        for (int to : reaches[(kind * 64 + man) * 64 + own]) {
            if (to != other && far[index(kind, to, own, other, 1)] == n - 1) {
                return true;
            }
        }
        return false;
    }

    private static boolean wonByPawn(byte[] far, int man, int own, int other, int n) {
        int up = man + 8;
        if (up == own || up == other) {
            return false;
        }
        if (up > 55) {
            for (int kind = 2; kind <= 5; kind++) {
                if (far[index(kind, up, own, other, 1)] == n - 1) {
                    return true;
                }
            }
            return false;
        }
        int two = up + 8;
        return far[index(1, up, own, other, 1)] == n - 1
                || man < 16 && two != own && two != other && far[index(1, two, own, other, 1)] == n - 1;
    }
}
