import java.util.List;

/** ATTACKED, at every edge of the board: every man from every square to every square of the other king. */
public final class EdgesAttackTest {
    private static final int TEXTS_AN_OBJECT = 30;

    private static GameHall hall;
    private static int read = 0;

    public static void main(String[] args) {
        for (int kind = 1; kind <= 6; kind++) {
            for (int from = 0; from < 64; from++) {
                boolean last = from < 8 || from >= 56;
                for (int to = 0; to < 64 && !(kind == 1 && last); to++) {
                    if (from != to) {
                        alone(kind, from, to);
                        shut(kind, from, to);
                        answers(kind, from, to);
                    }
                }
            }
        }
        Check.end("EdgesAttackTest");
    }

    /**
     * "by a knight (two and one), a king beside it, a pawn on a file beside it (white on the rank below it), or along a
     * line by a bishop or queen (askew), a rook or queen (straight)": a white man, by files and ranks alone.
     */
    private static boolean attacks(int kind, int from, int to) {
        int files = Math.abs(to % 8 - from % 8);
        int ranks = Math.abs(to / 8 - from / 8);
        boolean askew = files == ranks;
        boolean straight = files == 0 || ranks == 0;
        switch (kind) {
            case 1:
                return files == 1 && to / 8 == from / 8 + 1;
            case 2:
                return files + ranks == 3 && files > 0 && ranks > 0;
            case 3:
                return askew;
            case 4:
                return straight;
            case 5:
                return askew || straight;
            default:
                return files <= 1 && ranks <= 1;
        }
    }

    /** The man, the king it may attack, and its own king where it attacks nothing of this and hides nothing. */
    private static Plain.Position place(int kind, int from, int to) {
        Plain.Position p = new Plain.Position();
        p.men[from] = kind;
        p.men[to] = 12;
        for (int own = 0; own < 64 && kind != 6; own++) {
            boolean beside = own == from || own == to || attacks(6, own, to);
            boolean onLine = attacks(5, from, own) || attacks(5, to, own);
            if (!beside && !onLine) {
                p.men[own] = 6;
                break;
            }
        }
        return p;
    }

    /** The side of the man is to move, so that the attack is fault 11; the other side too, then it is a check. */
    private static void alone(int kind, int from, int to) {
        Plain.Position p = place(kind, from, to);
        boolean attacked = attacks(kind, from, to);
        fault(p, attacked ? 11 : 0);
        if (kind != 6) {
            p.side = 1;
            fault(p, 0);
            Check.due("check in " + Plain.record(p), hall.historyOf(0, 5), attacked ? 1 : 0);
        }
    }

    /** "... with nothing between": a man of either side on any square between, and on the squares beyond both. */
    private static void shut(int kind, int from, int to) {
        int files = Integer.signum(to % 8 - from % 8);
        int ranks = Integer.signum(to / 8 - from / 8);
        if (kind < 3 || kind > 5 || !attacks(kind, from, to)) {
            return;
        }
        int step = files + 8 * ranks;
        for (int square = from + step; square != to; square += step) {
            between(kind, from, to, square, 0);
        }
        if (isBoard(to % 8 + files, to / 8 + ranks)) {
            between(kind, from, to, to + step, 11);
        }
        if (isBoard(from % 8 - files, from / 8 - ranks)) {
            between(kind, from, to, from - step, 11);
        }
    }

    /**
     * "It is LEGAL if the king is not ATTACKED when it has been made": from whatever square it is attacked, a knight
     * that stands off the king's lines may only take the man or go between.
     */
    private static void answers(int kind, int from, int to) {
        if (kind == 6 || !attacks(kind, from, to)) {
            return;
        }
        Plain.Position p = place(kind, from, to);
        int square = 63;
        while (square >= 0 && (p.men[square] != 0 || attacks(5, square, to) || attacks(5, square, from))) {
            square--;
        }
        p.side = 1;
        p.men[square] = 8;
        fault(p, 0);
        String text = Plain.record(p);
        List<Integer> due = Plain.list(p);
        Check.due("legalMany of " + text, hall.legalMany(), due.size());
        for (int k = 0; k < due.size(); k++) {
            Check.due("legalMove " + k + " of " + text, hall.legalMove(k), due.get(k));
        }
    }

    private static boolean isBoard(int file, int rank) {
        return file >= 0 && file < 8 && rank >= 0 && rank < 8;
    }

    private static void between(int kind, int from, int to, int square, int fault) {
        Plain.Position p = place(kind, from, to);
        // knights: on a line they never attack the square it leads to
        p.men[square] = (from + to + square) % 2 == 0 ? 2 : 8;
        fault(p, fault);
    }

    private static void fault(Plain.Position p, int fault) {
        String text = Plain.record(p);
        submit(Texts.mirrored(text), fault);
        submit(text, fault);
    }

    private static void submit(String text, int fault) {
        if (read % TEXTS_AN_OBJECT == 0) {
            hall = new GameHall(0);
        }
        read++;
        Check.submit(hall, text);
        Check.due("fault of " + text, hall.status(1), fault);
    }
}
