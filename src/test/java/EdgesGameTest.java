import java.util.ArrayList;
import java.util.List;

/** The edges of a GAME: THE SAME, COUNT, DEAD and the VERDICT; each sentence of the document has a method here. */
public final class EdgesGameTest {
    private static final String ROOK = "6k1/8/8/8/8/8/8/K6R w - - ";
    private static final String ROUND = " Rh2 Kf8 Rh1 Kg8";

    public static void main(String[] args) {
        same();
        otherMen();
        otherSide();
        otherRights();
        passingFile();
        counts();
        dead();
        verdictOfClock();
        verdictOfCount();
        verdictOfBoth();
        firstThatHolds();
        endedGoesOn();
        facts();
        greatest();
        Check.end("EdgesGameTest");
    }

    private static void row(String text, int w, int... due) {
        GameHall hall = Check.hall(text);
        Check.due("positions of " + text, hall.status(3), due.length);
        for (int i = 0; i < due.length; i++) {
            Check.due("historyOf " + i + " " + w + " of " + text, hall.historyOf(i, w), due[i]);
        }
    }

    private static void both(String text, int w, int... due) {
        row(text, w, due);
        row(Texts.mirrored(text), w, due);
    }

    /** "Two are THE SAME if all squares ... are": also when the men have come another way, or are others of a kind. */
    private static void same() {
        both(ROOK + "0 1" + ROUND, 6, 0, 1, 2, 3, 0);
        both(ROOK + "0 1 Rh2 Kf8 Rh3 Kg8 Rh1 Kf8 Rh2 Kg8", 6, 0, 1, 2, 3, 4, 5, 6, 7, 8);
        both(ROOK + "0 1 Rh4 Kf8 Rh3 Kg8 Rh2 Kf8 Rh1 Kg8", 6, 0, 1, 2, 3, 4, 5, 6, 7, 0);
        // two knights that have changed their squares are the same men
        both("6k1/8/8/8/8/1N6/8/K3N3 w - - 0 1 Nc2 Kf8 Nd2 Kg8 Nf3 Kf8 Nfe1 Kg8 Nd4 Kf8 Nb3 Kg8", 6,
                0, 1, 2, 3, 4, 5, 6, 7, 8, 9, 10, 11, 0);
        // one square that differs
        both("6k1/8/8/8/8/8/P7/K6R w - - 0 1 Rh2 Kf8 a3 Kg8 Rh1 Kf8 Rh2 Kg8", 0, 1, 1, 1, 1, 1, 1, 1, 2, 2);
    }

    /** Two men that have changed their squares make another position, whatever their kinds and sides are. */
    private static void otherMen() {
        for (int first = 2; first <= 5; first++) {
            for (int second = first + 1; second <= 5; second++) {
                changed(first, second);
            }
        }
        both("7k/6r1/8/8/8/8/1R6/K7 w - - 0 1 Rb4 Rg5 Rf4 Rc5 Rf7 Rc2 Rg7 Rb2", 6,
                0, 1, 2, 3, 4, 5, 6, 7, 8);
        both("7k/6n1/8/8/8/8/1N6/K7 w - - 0 1 Nd3 Nf5 Nf4 Nd4 Nh5 Nb3+ Ka2 Nc1+ Ka1 Nd3 Ng7 Nb2", 6,
                0, 1, 2, 3, 4, 5, 6, 7, 8, 9, 10, 11, 12);
    }

    /** White's two men go to one another's square, step by step, while black's king waits; then back again. */
    private static void changed(int first, int second) {
        Plain.Position p = new Plain.Position();
        p.men[0] = 6;
        p.men[63] = 12;
        p.men[33] = first;
        p.men[35] = second;
        List<Integer> road = road(first, second);
        List<Integer> back = new ArrayList<>();
        for (int move : road) {
            back.add(0, move / 64 + 64 * (move % 64));
        }
        String text = Plain.record(p);
        for (int turn = 0; turn <= 56; turn += 56) {
            GameHall hall = Check.hall(turn == 0 ? text : Texts.mirrored(text));
            walk(hall, road, turn);
            int last = hall.status(3) - 1;
            Check.due("squares changed by " + first + " and " + second, hall.historyOf(last, 6), last);
            Check.due("COUNT of that", hall.historyOf(last, 0), 1);
            walk(hall, back, turn);
            Check.due("and back again", hall.historyOf(hall.status(3) - 1, 6), 0);
            Check.due("COUNT of that", hall.historyOf(hall.status(3) - 1, 0), 2);
        }
    }

    private static void walk(GameHall hall, List<Integer> road, int turn) {
        int king = 63;
        for (int move : road) {
            go(hall, move % 64 ^ turn, move / 64 ^ turn);
            go(hall, king ^ turn, king ^ 8 ^ turn);
            king ^= 8;
        }
    }

    private static void go(GameHall hall, int from, int to) {
        int many = hall.legalMany();
        for (int k = 0; k < many; k++) {
            if (hall.legalMove(k) == from + 64 * to) {
                hall.proceed(k);
                return;
            }
        }
        throw new IllegalStateException("no move from " + from + " to " + to);
    }

    /** The shortest way of an even number of moves, on which h8 and h7 are never attacked. */
    private static List<Integer> road(int first, int second) {
        int[] before = new int[8192];
        int[] move = new int[8192];
        List<Integer> queue = new ArrayList<>(List.of(33 + 64 * 35));
        int goal = 35 + 64 * 33;
        before[33 + 64 * 35] = -1;
        for (int k = 0; k < queue.size() && before[goal] == 0; k++) {
            int state = queue.get(k);
            for (int step = 0; step < 128; step++) {
                int from = step < 64 ? state % 64 : state / 64 % 64;
                int to = step % 64;
                int next = (step < 64 ? to + 64 * (state / 64 % 64) : state % 64 + 64 * to) + (state < 4096 ? 4096 : 0);
                if (before[next] == 0 && isStep(state, from, to, first, second) && isQuiet(next, first, second)) {
                    before[next] = state + 1;
                    move[next] = from + 64 * to;
                    queue.add(next);
                }
            }
        }
        List<Integer> road = new ArrayList<>();
        for (int state = goal; before[state] > 0; state = before[state] - 1) {
            road.add(0, move[state]);
        }
        return road;
    }

    private static Plain.Position stand(int state, int first, int second) {
        Plain.Position p = new Plain.Position();
        p.men[0] = 6;
        p.men[state % 64] = first;
        p.men[state / 64 % 64] = second;
        return p;
    }

    private static boolean isStep(int state, int from, int to, int first, int second) {
        Plain.Position p = stand(state, first, second);
        boolean kings = to == 63 || to == 55 || to == 62 || to == 54 || to == 46 || to == 47;
        return p.men[to] == 0 && !kings && Plain.attacks(p, from, to);
    }

    private static boolean isQuiet(int state, int first, int second) {
        Plain.Position p = stand(state, first, second);
        return !Plain.attacked(p, 63, 0) && !Plain.attacked(p, 55, 0);
    }

    /** "... SIDE": the same squares with the other side to move are another position. */
    private static void otherSide() {
        both(ROOK + "0 1 Rh3 Kf8 Rh2 Kg8 Rh1 Kf8", 0, 1, 1, 1, 1, 1, 1, 1);
        both("6k1/8/8/8/8/8/8/K6R w - - 0 1 Rg1+ Kf8 Rh1 Kg7 Rh2 Kg8 Rh1", 6, 0, 1, 2, 3, 4, 5, 6, 7);
        for (String rights : new String[] {"-", "K"}) {
            both("4k3/8/8/8/8/8/8/4K2R w " + rights + " - 0 1 Rg1 Kd8 Rf1 Ke8 Rh1", 6, 0, 1, 2, 3, 4, 5);
        }
        for (String rights : new String[] {"-", "Q"}) {
            both("4k3/8/8/8/8/8/8/R3K3 w " + rights + " - 0 1 Rb1 Kf8 Rc1 Ke8 Ra1", 6, 0, 1, 2, 3, 4, 5);
        }
    }

    /** "... and RIGHTS are": each of the four. */
    private static void otherRights() {
        String home = "r3k2r/8/8/8/8/8/8/R3K2R w ";
        String[] goBack = {"Rg1 Rf8 Rh1 Rh8", "Rb1 Rd8 Ra1 Ra8"};
        for (int side = 0; side < 2; side++) {
            String moves = " " + goBack[side];
            String own = side == 0 ? "Kk" : "Qq";
            row(home + own + " - 0 1" + moves + moves, 6, 0, 1, 2, 3, 4, 5, 2, 3, 4);
            row(home + "- - 0 1" + moves + moves, 6, 0, 1, 2, 3, 0, 1, 2, 3, 0);
            for (int k = 0; k < 2; k++) {
                // with the right of one side only the position before that man moved is another one
                String one = own.substring(k, k + 1);
                row(home + one + " - 0 1" + moves + moves, 6, k == 0 ? new int[] {0, 1, 2, 3, 4, 1, 2, 3, 4}
                        : new int[] {0, 1, 2, 3, 4, 5, 2, 3, 4});
            }
        }
    }

    /** "... and on which file a LEGAL move takes IN PASSING (or that there is none)". */
    private static void passingFile() {
        String round = " Kd1 Kd8 Ke1 Ke8";
        both("4k3/8/8/3pP3/8/8/8/4K3 w - d6 0 1" + round + round, 6, 0, 1, 2, 3, 4, 1, 2, 3, 4);
        // a PASSANT that no LEGAL move uses does not matter: no pawn, a pinned one
        both("4k3/8/8/3p4/8/4P3/8/4K3 w - d6 0 1" + round, 6, 0, 1, 2, 3, 0);
        both("4k3/4r3/8/3pP3/8/8/8/4K3 w - d6 0 1 Kf1 Kf8 Ke1 Ke8", 6, 0, 1, 2, 3, 0);
        both("4k3/8/8/3pP3/8/8/8/4K3 w - d6 0 1", 7, 3);
        both("4k3/4r3/8/3pP3/8/8/8/4K3 w - d6 0 1", 7, -1);
        both("4k3/8/8/3p4/8/8/8/4K3 w - d6 0 1", 7, -1);
        both("4k3/8/8/pP6/8/8/8/4K3 w - a6 0 1", 7, 0);
        both("4k3/8/8/6Pp/8/8/8/4K3 w - h6 0 1", 7, 7);
        // each file, with all rights there
        for (int file = 0; file < 8; file++) {
            Plain.Position p = Plain.read("rn2k2r/8/8/8/8/8/8/RN2K2R w KQkq - 0 1");
            p.men[32 + file] = 7;
            p.men[file == 0 ? 33 : 31 + file] = 1;
            p.passant = file;
            both(Plain.record(p), 7, file);
            both(Plain.record(p) + " Nc3 Nc6 Nb1 Nb8".repeat(2), 6, 0, 1, 2, 3, 4, 1, 2, 3, 4);
        }
        // one of two pawns is pinned: the other one takes
        both("4k3/4r3/8/2PpP3/8/8/8/4K3 w - d6 0 1", 7, 3);
        both(Texts.START + " a4 h5 a5 b5", 7, -1, -1, -1, -1, 1);
    }

    /** "The COUNT of a position is how many in the row up to it, itself among them, are the same." */
    private static void counts() {
        both(ROOK + "0 1" + ROUND.repeat(4), 0, 1, 1, 1, 1, 2, 2, 2, 2, 3, 3, 3, 3, 4, 4, 4, 4, 5);
        both(ROOK + "0 1" + ROUND.repeat(4), 6, 0, 1, 2, 3, 0, 1, 2, 3, 0, 1, 2, 3, 0, 1, 2, 3, 0);
        // a record's clock says nothing of positions that are not in the row
        both(ROOK + "90 1" + ROUND, 0, 1, 1, 1, 1, 2);
        both(ROOK + "4 1" + ROUND, 0, 1, 1, 1, 1, 2);
        // what is taken back does not count any more
        GameHall hall = Check.hall(ROOK + "0 1" + ROUND.repeat(2));
        for (int k = 0; k < 5; k++) {
            hall.retreat();
        }
        for (String word : "Kg8 Rh2 Kf8 Rh1 Kg8".split(" ")) {
            hall.proceed(Check.place(hall, word));
        }
        Check.due("COUNT", hall.historyOf(8, 0), 3);
        Check.due("verdict", hall.status(4), 6);
    }

    private static void verdict(String text, int due) {
        Check.due("verdict of " + text, Check.hall(text).status(4), due);
        Check.due("verdict turned over, of " + text, Check.hall(Texts.mirrored(text)).status(4), due);
    }

    /** "It is DEAD if there are besides the kings: nothing; or one bishop or one knight; or just one bishop of each side". */
    private static void dead() {
        verdict("4k3/8/8/8/8/8/8/4K3 w - - 0 1", 3);
        for (String man : new String[] {"B", "N", "b", "n"}) {
            verdict("4k3/8/8/8/8/8/" + man + "7/4K3 w - - 0 1", 3);
        }
        for (String man : new String[] {"P", "R", "Q", "p", "r", "q"}) {
            verdict("4k3/8/8/8/8/8/" + man + "7/4K3 w - - 0 1", 0);
        }
        // "both on squares of one colour ((file + rank) of both even, or both odd)": all pairs of squares
        for (int white = 0; white < 64; white++) {
            for (int black = 0; black < 64; black++) {
                if (white != black) {
                    bishops(white, black);
                }
            }
        }
        // two of one side, on one colour or both; and more than one each
        verdict("4k3/8/8/8/8/8/B1B5/4K3 w - - 0 1", 0);
        verdict("4k3/8/8/8/8/8/BB6/4K3 w - - 0 1", 0);
        verdict("4k3/8/8/8/8/8/NN6/4K3 w - - 0 1", 0);
        verdict("4k3/8/8/8/8/8/BN6/4K3 w - - 0 1", 0);
        verdict("4k3/8/8/8/8/8/B1b5/4K3 w - - 0 1", 3);
        verdict("4k3/8/8/8/8/8/B4n2/4K3 w - - 0 1", 0);
        verdict("4k3/8/8/8/8/8/N4n2/4K3 w - - 0 1", 0);
        verdict("4k3/8/8/8/8/8/B1b1B3/4K3 w - - 0 1", 0);
        verdict("4k3/8/8/8/8/8/B1b1b3/4K3 w - - 0 1", 0);
        verdict("4k3/8/8/8/8/8/B1bP4/4K3 w - - 0 1", 0);
        verdict("4k3/8/8/8/8/8/B2P4/4K3 w - - 0 1", 0);
    }

    /** A bishop of each side, and the kings on the first squares where neither is attacked. */
    private static void bishops(int white, int black) {
        for (int own = 0; own < 64; own++) {
            Plain.Position p = new Plain.Position();
            p.men[own] = 6;
            p.men[63 - own] = 12;
            p.men[white] = 3;
            p.men[black] = 9;
            boolean free = own != white && own != black && 63 - own != white && 63 - own != black;
            boolean near = Plain.attacks(p, own, 63 - own);
            if (free && !near && !Plain.check(p, 0) && !Plain.check(p, 1)) {
                boolean one = (white % 8 + white / 8 + black % 8 + black / 8) % 2 == 0;
                verdict(Plain.record(p), one ? 3 : 0);
                return;
            }
        }
        throw new IllegalStateException("no squares for the kings beside " + white + " and " + black);
    }

    /** "5 the CLOCK is 150 or more; ... the CLOCK 100 or more; ... 7 for the CLOCK; 0 it goes on". */
    private static void verdictOfClock() {
        int[][] due = {{0, 0}, {1, 0}, {98, 0}, {99, 0}, {100, 7}, {101, 7}, {148, 7}, {149, 7}, {150, 5}, {151, 5},
            {500, 5}, {999, 5}};
        for (int[] one : due) {
            verdict(ROOK + one[0] + " 1", one[1]);
        }
        for (int[] one : due) {
            if (one[0] > 0 && one[0] <= 150) {
                verdict(ROOK + (one[0] - 1) + " 1 Rh2", one[1]);
            }
        }
    }

    /** "4 the COUNT is 5 or more; ... the COUNT is 3 or more; ... 6 for the COUNT". */
    private static void verdictOfCount() {
        int[] due = {0, 0, 6, 6, 4};
        for (int rounds = 0; rounds < 5; rounds++) {
            verdict(ROOK + "0 1" + ROUND.repeat(rounds), due[rounds]);
        }
        // the count is that of the position, not of the game: a new one goes on
        verdict(ROOK + "0 1" + ROUND.repeat(3) + " Rh3", 0);
    }

    /** "8 it goes on, and a draw can be claimed for both". */
    private static void verdictOfBoth() {
        verdict(ROOK + "91 1" + ROUND.repeat(2), 6);
        verdict(ROOK + "92 1" + ROUND.repeat(2), 8);
        verdict(ROOK + "95 1" + ROUND, 0);
        verdict(ROOK + "96 1" + ROUND, 7);
        verdict(ROOK + "141 1" + ROUND.repeat(2), 8);
        verdict(ROOK + "142 1" + ROUND.repeat(2), 5);
        verdict(ROOK + "137 1" + ROUND.repeat(3), 8);
        verdict(ROOK + "138 1" + ROUND.repeat(3), 5);
    }

    /** "The VERDICT, the first one that holds". */
    private static void firstThatHolds() {
        // mate, with the clock run out
        verdict("7k/R7/8/8/8/8/8/1R5K w - - 149 1 Rb8#", 1);
        verdict("1R5k/R7/8/8/8/8/8/7K b - - 150 1", 1);
        verdict("1R5k/R7/8/8/8/8/8/7K b - - 999 1", 1);
        // stalemate: with the clock run out, and with too little to mate
        verdict("7k/8/6Q1/8/8/8/8/K7 b - - 150 1", 2);
        verdict("7k/8/8/6Q1/8/8/8/K7 w - - 149 1 Qg6", 2);
        verdict("7k/8/6K1/4B3/8/8/8/8 b - - 0 1", 3);
        verdict("7k/8/6KB/8/8/8/8/8 b - - 0 1", 3);
        verdict("7k/8/7K/3B4/8/8/8/8 b - - 0 1", 2);
        // DEAD, with the clock run out
        verdict("4k3/8/8/8/8/8/8/4K3 w - - 150 1", 3);
        verdict("4k3/8/8/8/8/8/8/4K2B w - - 999 1", 3);
        // the fifth time at clock 150: 4; at the fourth time 5
        verdict(ROOK + "134 1" + ROUND.repeat(4), 4);
        verdict(ROOK + "133 1" + ROUND.repeat(4), 4);
        verdict(ROOK + "138 1" + ROUND.repeat(3), 5);
    }

    /** "With 1 to 5 the game has ended (LIST, lines, VALUE, BEST, DISTANCE and MATING move ... go on ...)". */
    private static void endedGoesOn() {
        for (String text : new String[] {"8/8/8/8/8/2K5/7R/k7 w - - 150 1",
            "8/8/8/8/8/2K5/7R/k7 w - - 0 1" + " Rg2 Kb1 Rh2 Ka1".repeat(4)}) {
            GameHall hall = Check.hall(text);
            Check.due("ended: " + text, hall.status(4), text.endsWith("150 1") ? 5 : 4);
            Check.due("LIST", hall.legalMany(), 21);
            Check.due("spelling", Check.place(hall, "Kb3") >= 0, true);
            Check.due("lines", hall.linesTo(2) > 21, true);
            Check.due("VALUE", hall.valueAt(3), 997);
            Check.due("BEST", Check.unpack(hall.spelling(hall.bestAt(3))), "Kb3");
            Check.due("DISTANCE", hall.distanceToMate(), 3);
            Check.due("MATING move", Check.unpack(hall.spelling(hall.matingMove())), "Kb3");
            Check.dueThrow("proceed", IllegalStateException.class, () -> hall.proceed(0));
        }
        GameHall bare = Check.hall("7k/8/8/8/8/8/8/K6B w - - 0 1");
        Check.due("LIST of a DEAD position", bare.legalMany(), 10);
        Check.due("VALUE of it", bare.valueAt(2), 3);
        Check.due("BEST of it", bare.bestAt(1), 0);
        // "as long as there are LEGAL moves"
        for (String text : new String[] {"1R5k/R7/8/8/8/8/8/7K b - - 0 1", "7k/8/6Q1/8/8/8/8/K7 b - - 0 1"}) {
            GameHall hall = Check.hall(text);
            Check.due("LIST of " + text, hall.legalMany(), 0);
            Check.due("lines of 0", hall.linesTo(0), 1);
            Check.due("lines of 1", hall.linesTo(1), 0);
            Check.due("BEST", hall.bestAt(1), -1);
            Check.due("MATING move", hall.matingMove(), -1);
        }
    }

    /** What historyOf tells of each position, w by w. */
    private static void facts() {
        String text = "4k2r/8/8/8/1p6/8/P7/4K2R w Kk - 7 3 a4 bxa3 0-0 a2 Kf2 a1Q Rxa1";
        both(text, 0, 1, 1, 1, 1, 1, 1, 1, 1);
        both(text, 1, 7, 0, 0, 1, 0, 1, 0, 0);
        both(text, 2, 0, 0, 0, 0, 0, 0, 0, 0);
        row(text, 3, -1, 8 + 64 * 24, 25 + 64 * 16, 4 + 64 * 6, 16 + 64 * 8, 6 + 64 * 13, 8 + 64 * 0 + 4096 * 5, 5);
        both(text, 7, -1, 0, -1, -1, -1, -1, -1, -1);
        GameHall hall = Check.hall(text);
        for (int i = 7; i >= 0; i--) {
            Check.due("how many LEGAL moves " + i, hall.historyOf(i, 4), hall.legalMany());
            hall.retreat();
        }
        both("7k/8/8/8/8/8/8/R3K3 w - - 0 1 Ra8+ Kg7 Ra7+ Kf6", 5, 0, 1, 0, 1, 0);
        both("7k/R7/8/8/8/8/8/1R5K w - - 0 1 Rb8#", 5, 0, 1);
        both("7k/R7/8/8/8/8/8/1R5K w - - 0 1 Rb8#", 4, many("7k/R7/8/8/8/8/8/1R5K w - - 0 1"), 0);
        both("7k/8/8/6Q1/8/8/8/K7 w - - 0 1 Qg6", 5, 0, 0);
    }

    private static int many(String text) {
        return Check.hall(text).legalMany();
    }

    /** "how many different positions the game has (those whose COUNT is 1), 12: the greatest COUNT". */
    private static void greatest() {
        GameHall hall = Check.hall(ROOK + "0 1" + ROUND.repeat(3) + " Rh3");
        Check.due("different", hall.status(11), 5);
        Check.due("greatest", hall.status(12), 4);
        hall.retreat();
        Check.due("different", hall.status(11), 4);
        Check.due("greatest", hall.status(12), 4);
        hall.retreat();
        Check.due("greatest", hall.status(12), 3);
        Check.due("different", hall.status(11), 4);
        GameHall one = Check.hall(ROOK + "0 1");
        Check.due("different", one.status(11), 1);
        Check.due("greatest", one.status(12), 1);
    }
}
