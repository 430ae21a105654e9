import java.util.Arrays;

/** The edges of MOVES: each sentence of the document about them has a method here; all with either side to move. */
public final class EdgesMoveTest {
    public static void main(String[] args) {
        edgesOfTheBoard();
        pawnsOneRank();
        pawnsTwoRanks();
        pawnsTake();
        becoming();
        inPassing();
        inPassingOverTheEdge();
        castlingSquares();
        castlingAttacked();
        castlingRights();
        leavesTheKing();
        rightsGo();
        passantIsSet();
        recordsPassant();
        clock();
        number();
        order();
        Check.end("EdgesMoveTest");
    }

    private static int square(String name) {
        return name.charAt(0) - 'a' + 8 * (name.charAt(1) - '1');
    }

    /** Where the man on a square can go; with what a pawn becomes behind it, if it does. In the order of the LIST. */
    private static String goals(GameHall hall, int from) {
        StringBuilder out = new StringBuilder();
        int many = hall.legalMany();
        for (int k = 0; k < many; k++) {
            int move = hall.legalMove(k);
            if (move % 64 == from) {
                int to = move / 64 % 64;
                out.append(out.length() > 0 ? " " : "").append((char) ('a' + to % 8)).append(to / 8 + 1);
                out.append(move / 4096 == 0 ? "" : "" + move / 4096);
            }
        }
        return out.toString();
    }

    private static String sorted(String words) {
        String[] parts = words.split(" ");
        Arrays.sort(parts);
        return String.join(" ", parts);
    }

    /** What the man on a square of a white position can do, and the same turned over for black. */
    private static void can(String text, String from, String due) {
        Check.due(from + " of " + text, sorted(goals(Check.hall(text), square(from))), sorted(due));
        StringBuilder turned = new StringBuilder();
        for (String goal : due.split(" ")) {
            if (!goal.isEmpty()) {
                turned.append(turned.length() > 0 ? " " : "").append(Texts.mirroredWord(goal.substring(0, 2)));
                turned.append(goal.substring(2));
            }
        }
        String other = Texts.mirrored(text);
        String square = Texts.mirroredWord(from);
        Check.due(square + " of " + other, sorted(goals(Check.hall(other), square(square))), sorted(turned.toString()));
    }

    /** "knight, bishop, rook, queen, king to a square that it attacks": none leaves the board over its edge. */
    private static void edgesOfTheBoard() {
        can("N7/8/8/8/3K1k2/8/8/8 w - - 0 1", "a8", "b6 c7");
        can("7N/8/8/8/3K1k2/8/8/8 w - - 0 1", "h8", "f7 g6");
        can("8/8/8/8/3K1k2/8/8/N7 w - - 0 1", "a1", "b3 c2");
        can("8/8/8/8/3K1k2/8/8/7N w - - 0 1", "h1", "f2 g3");
        can("8/8/8/N7/3K1k2/8/8/8 w - - 0 1", "a5", "b3 b7 c4 c6");
        can("8/8/8/7N/4K3/8/5k2/8 w - - 0 1", "h5", "f4 f6 g3 g7");
        can("8/1N6/8/8/3K1k2/8/8/8 w - - 0 1", "b7", "a5 c5 d6 d8");
        can("8/8/8/8/3K4/8/k5N1/8 w - - 0 1", "g2", "e1 e3 f4 h4");
        can("8/5k2/8/8/8/3K4/8/B7 w - - 0 1", "a1", "b2 c3 d4 e5 f6 g7 h8");
        can("8/5k2/8/8/8/3K4/8/7B w - - 0 1", "h1", "a8 b7 c6 d5 e4 f3 g2");
        can("8/5k2/8/B7/8/8/8/7K w - - 0 1", "a5", "b4 b6 c3 c7 d2 d8 e1");
        can("8/5k2/8/7B/8/8/8/K7 b - - 0 1", "f7", "e6 e7 f6 f8 g7 g8");
        can("7B/5k2/8/8/8/8/8/K7 w - - 0 1", "h8", "b2 c3 d4 e5 f6 g7");
        can("8/5k2/8/8/8/3K4/8/R7 w - - 0 1", "a1", "a2 a3 a4 a5 a6 a7 a8 b1 c1 d1 e1 f1 g1 h1");
        can("7R/5k2/8/8/8/3K4/8/8 w - - 0 1", "h8", "a8 b8 c8 d8 e8 f8 g8 h1 h2 h3 h4 h5 h6 h7");
        can("8/5k2/8/7R/8/3K4/8/8 w - - 0 1", "h5", "a5 b5 c5 d5 e5 f5 g5 h1 h2 h3 h4 h6 h7 h8");
        can("8/5k2/8/8/8/3K4/8/7Q w - - 0 1", "h1",
                "a1 a8 b1 b7 c1 c6 d1 d5 e1 e4 f1 f3 g1 g2 h2 h3 h4 h5 h6 h7 h8");
        can("8/5k2/8/8/8/8/8/K7 w - - 0 1", "a1", "a2 b1 b2");
        can("8/5k2/8/8/8/8/8/7K w - - 0 1", "h1", "g1 g2 h2");
        can("K7/5k2/8/8/8/8/8/8 w - - 0 1", "a8", "a7 b7 b8");
        can("7K/8/5k2/8/8/8/8/8 w - - 0 1", "h8", "g8 h7");
        can("8/5k2/8/K7/8/8/8/8 w - - 0 1", "a5", "a4 a6 b4 b5 b6");
        can("8/5k2/8/8/7K/8/8/8 w - - 0 1", "h4", "g3 g4 g5 h3 h5");
        can("8/5k2/8/8/8/8/8/3K4 w - - 0 1", "d1", "c1 c2 d2 e1 e2");
    }

    /** "a pawn one rank on to an empty square": not to one with a man of either side. */
    private static void pawnsOneRank() {
        can("7k/8/8/8/8/P7/8/7K w - - 0 1", "a3", "a4");
        can("7k/8/8/8/p7/P7/8/7K w - - 0 1", "a3", "");
        can("7k/8/8/8/N7/P7/8/7K w - - 0 1", "a3", "");
        can("7k/8/7P/8/8/8/8/7K w - - 0 1", "h6", "h7");
    }

    /** "from its second rank two ranks over an empty square to an empty one": from no other rank. */
    private static void pawnsTwoRanks() {
        for (char file = 'a'; file <= 'h'; file++) {
            for (int rank = 2; rank <= 6; rank++) {
                Plain.Position p = new Plain.Position();
                p.men[file - 'a' + 8 * (rank - 1)] = 1;
                p.men[file < 'e' ? 7 : 0] = 6;
                p.men[file < 'e' ? 63 : 56] = 12;
                String one = "" + file + (rank + 1);
                can(Plain.record(p), "" + file + rank, rank == 2 ? one + " " + file + "4" : one);
            }
        }
        can("7k/8/8/8/p7/8/P7/7K w - - 0 1", "a2", "a3");
        can("7k/8/8/8/N7/8/P7/7K w - - 0 1", "a2", "a3");
        can("7k/8/8/8/8/p7/P7/7K w - - 0 1", "a2", "");
        can("7k/8/8/8/8/N7/P7/7K w - - 0 1", "a2", "");
        can("7k/8/8/p7/8/8/P7/7K w - - 0 1", "a2", "a3 a4");
    }

    /** "or a rank on and a file aside to a square with a man of the other side". */
    private static void pawnsTake() {
        can("7k/8/8/8/8/pnp5/1P6/7K w - - 0 1", "b2", "a3 c3");
        can("7k/8/8/8/8/NnN5/1P6/7K w - - 0 1", "b2", "");
        can("7k/8/8/8/1p6/8/1P6/7K w - - 0 1", "b2", "b3");
        // not backwards, nor aside, nor over the edge to the other file
        can("7k/8/8/8/1P6/p1p5/8/7K w - - 0 1", "b4", "b5");
        can("7k/8/8/pPp5/8/8/8/7K w - - 0 1", "b5", "b6");
        can("7k/8/7p/P6p/7p/7p/8/1K6 w - - 0 1", "a5", "a6");
        can("k7/8/p7/p6P/p7/p7/8/6K1 w - - 0 1", "h5", "h6");
        can("7k/8/pp6/P7/8/8/8/7K w - - 0 1", "a5", "b6");
        can("7k/8/6pp/7P/8/8/8/7K w - - 0 1", "h5", "g6");
    }

    /** "what a pawn becomes (0 none, 2 knight, 3 bishop, 4 rook, 5 queen: one of these when it comes to the last rank)". */
    private static void becoming() {
        can("8/P6k/8/8/8/8/8/7K w - - 0 1", "a7", "a82 a83 a84 a85");
        can("8/7P/8/8/8/8/7k/K7 w - - 0 1", "h7", "h82 h83 h84 h85");
        can("nnn4k/1P6/8/8/8/8/8/7K w - - 0 1", "b7", "a82 a83 a84 a85 c82 c83 c84 c85");
        can("8/8/P6k/8/8/8/8/7K w - - 0 1", "a6", "a7");
        // another man comes to the last rank and stays what it is
        can("8/R7/8/7k/8/8/8/1K6 w - - 0 1", "a7", "a1 a2 a3 a4 a5 a6 a8 b7 c7 d7 e7 f7 g7 h7");
        GameHall hall = Check.hall("8/P6k/8/8/8/8/8/7K w - - 0 1");
        int[] due = {square("a7") + 64 * 56 + 4096 * 2, square("a7") + 64 * 56 + 4096 * 3,
            square("a7") + 64 * 56 + 4096 * 4, square("a7") + 64 * 56 + 4096 * 5};
        for (int k = 0; k < 4; k++) {
            Check.due("the moves of the pawn stand last", hall.legalMove(3 + k), due[k]);
        }
    }

    /** "or IN PASSING to the empty square of the PASSANT file on the other side's third rank ... (it is taken)". */
    private static void inPassing() {
        can("7k/8/8/1pP5/8/8/8/7K w - b6 0 1", "c5", "b6 c6");
        can("7k/8/8/Pp6/8/8/8/7K w - b6 0 1", "a5", "a6 b6");
        can("7k/8/8/PpP5/8/8/8/7K w - - 0 1", "a5", "a6");
        can("7k/8/8/pPp5/8/8/8/7K w - a6 0 1", "b5", "a6 b6");
        can("7k/8/8/pPp5/8/8/8/7K w - c6 0 1", "b5", "b6 c6");
        // without a PASSANT none is taken so, wherever it stands
        can("7k/8/7p/8/6P1/8/8/K7 w - - 0 1", "g4", "g5");
        can("7k/8/8/6Pp/8/8/8/K7 w - - 0 1", "g5", "g6");
        can("7k/8/8/pP6/8/8/8/7K w - - 0 1", "b5", "b6");
        // only beside it and from that rank
        can("7k/8/8/1p1P4/8/8/8/7K w - b6 0 1", "d5", "d6");
        can("7k/8/8/1p6/2P5/8/8/7K w - b6 0 1", "c4", "b5 c5");
        can("7k/8/2P5/1p6/8/8/8/7K w - b6 0 1", "c6", "c7");
        // another man than a pawn goes there and takes nothing
        GameHall hall = Check.hall("7k/8/8/1pN5/8/8/8/R6K w - b6 0 1");
        hall.proceed(Check.place(hall, "Ra6"));
        Check.due("the pawn stays", hall.manOn(square("b5")), 7);
        GameHall rook = Check.hall("7k/8/R7/1p6/8/8/8/7K w - b6 0 1");
        rook.proceed(Check.place(rook, "Rb6"));
        Check.due("the pawn stays", rook.manOn(square("b5")), 7);
        GameHall taking = Check.hall("7k/8/8/1pP5/8/8/8/7K w - b6 0 1");
        taking.proceed(Check.place(taking, "cxb6"));
        Check.due("the pawn is taken", Check.record(taking), "7k/8/1P6/8/8/8/8/7K b - - 0 1");
    }

    /** The a file is not beside the h file, on any rank. */
    private static void inPassingOverTheEdge() {
        for (int rank = 2; rank <= 7; rank++) {
            edge("a", "h", rank);
            edge("h", "a", rank);
        }
    }

    private static void edge(String passant, String file, int rank) {
        Plain.Position p = new Plain.Position();
        p.men[square("d1")] = 6;
        p.men[square("e8")] = 12;
        p.men[square(passant + "5")] = 7;
        p.men[square(file + rank)] = 1;
        p.passant = passant.charAt(0) - 'a';
        String one = file + (rank + 1);
        String due = rank == 2 ? one + " " + file + "4" : rank == 7 ? one + "2 " + one + "3 " + one + "4 " + one + "5" : one;
        can(Plain.record(p), file + rank, due);
        Check.due("takes in passing", Check.hall(Plain.record(p)).historyOf(0, 7), -1);
    }

    private static void castles(String text, boolean shortly, boolean longly) {
        GameHall hall = Check.hall(text);
        String words = " " + Check.spellings(hall).replaceAll("[+#]", "") + " ";
        Check.due("0-0 in " + text, words.contains(" 0-0 "), shortly);
        Check.due("0-0-0 in " + text, words.contains(" 0-0-0 "), longly);
    }

    private static void castle(String text, boolean shortly, boolean longly) {
        castles(text, shortly, longly);
        castles(Texts.mirrored(text), shortly, longly);
    }

    /** "all squares between them are empty": of men of either side. */
    private static void castlingSquares() {
        castle("4k3/8/8/8/8/8/8/R3K2R w KQ - 0 1", true, true);
        for (String man : new String[] {"N", "B", "b"}) {
            castle("2k5/8/8/8/8/8/8/R" + man + "2K2R w KQ - 0 1", true, false);
            castle("2k5/8/8/8/8/8/8/R1" + man + "1K2R w KQ - 0 1", true, false);
            castle("2k5/8/8/8/8/8/8/R2" + man + "K2R w KQ - 0 1", true, false);
            castle("2k5/8/8/8/8/8/8/R3K" + man + "1R w KQ - 0 1", false, true);
            castle("2k5/8/8/8/8/8/8/R3K1" + man + "R w KQ - 0 1", false, true);
        }
    }

    /** "neither the king's square nor the one it passes is ATTACKED", nor the one it comes to; others may be. */
    private static void castlingAttacked() {
        boolean[][] due = {{true, true}, {true, true}, {true, false}, {true, false}, {false, false}, {false, true},
            {false, true}, {true, true}};
        for (int file = 0; file < 8; file++) {
            Plain.Position p = new Plain.Position();
            p.men[0] = 4;
            p.men[4] = 6;
            p.men[7] = 4;
            p.men[square("b7")] = 12;
            p.rights = 3;
            p.men[56 + file] = 10;
            castle(Plain.record(p), due[file][0], due[file][1]);
            // something between: no attack
            p.men[40 + file] = 8;
            p.men[8 + file] = 1;
            castle(Plain.record(p), true, true);
        }
        // by a pawn, a knight, a bishop, a queen, a king
        castle("2k5/8/8/8/8/8/6p1/R3K2R w KQ - 0 1", false, true);
        castle("2k5/8/8/8/8/8/4p3/R3K2R w KQ - 0 1", false, false);
        castle("2k5/8/8/8/8/8/3p4/R3K2R w KQ - 0 1", false, false);
        castle("2k5/8/8/8/8/8/7p/R3K2R w KQ - 0 1", false, true);
        castle("2k5/8/8/8/8/8/1p6/R3K2R w KQ - 0 1", true, false);
        castle("2k5/8/8/8/8/8/p7/R3K2R w KQ - 0 1", true, true);
        castle("2k5/8/8/8/8/7n/8/R3K2R w KQ - 0 1", false, true);
        castle("2k5/8/8/8/8/1n6/8/R3K2R w KQ - 0 1", true, false);
        // a3 attacks b1, which only the rook passes
        castle("2k5/8/8/8/8/n7/8/R3K2R w KQ - 0 1", true, true);
        castle("2k5/8/8/8/8/5n2/8/R3K2R w KQ - 0 1", false, false);
        castle("2k5/8/8/8/b7/8/8/R3K2R w KQ - 0 1", true, false);
        castle("2k5/8/8/1b6/8/8/8/R3K2R w KQ - 0 1", false, true);
        castle("2k5/8/8/8/1b6/8/8/R3K2R w KQ - 0 1", false, false);
        castle("2k5/8/8/8/8/8/5q2/4K2R w K - 0 1", false, false);
        castle("8/8/8/8/8/8/6k1/R3K2R w KQ - 0 1", false, true);
        castle("8/8/8/8/8/8/1k6/R3K2R w KQ - 0 1", true, false);
    }

    /** "if the right is there". */
    private static void castlingRights() {
        for (int rights = 0; rights < 16; rights++) {
            String field = "";
            for (int k = 0; k < 4; k++) {
                field += (rights >> k & 1) != 0 ? "" + "KQkq".charAt(k) : "";
            }
            String home = "r3k2r/8/8/8/8/8/8/R3K2R ";
            field = field.isEmpty() ? "-" : field;
            castles(home + "w " + field + " - 0 1", (rights & 1) != 0, (rights & 2) != 0);
            castles(home + "b " + field + " - 0 1", (rights & 4) != 0, (rights & 8) != 0);
        }
    }

    /** "It is LEGAL if the king is not ATTACKED when it has been made." */
    private static void leavesTheKing() {
        can("4r2k/8/8/8/8/8/4R3/4K3 w - - 0 1", "e2", "e3 e4 e5 e6 e7 e8");
        can("4r2k/8/8/8/8/8/4N3/4K3 w - - 0 1", "e2", "");
        can("7k/8/8/8/7b/8/5B2/4K3 w - - 0 1", "f2", "g3 h4");
        can("7k/8/8/8/7b/8/5P2/4K3 w - - 0 1", "f2", "");
        can("7k/8/8/8/8/6b1/5P2/4K3 w - - 0 1", "f2", "g3");
        can("4r2k/8/8/8/8/3n4/4P3/4K3 w - - 0 1", "e2", "");
        // out of a check: take, shut, or go; the king does not hide behind itself
        can("4r2k/8/8/8/8/8/R7/4K3 w - - 0 1", "a2", "e2");
        can("4r2k/R7/8/8/8/8/8/4K3 w - - 0 1", "a7", "e7");
        can("R3r2k/8/8/8/8/8/8/4K3 w - - 0 1", "a8", "e8");
        can("7k/8/8/8/r3K3/8/8/8 w - - 0 1", "e4", "d3 d5 e3 e5 f3 f5");
        can("7k/8/8/8/4K3/8/8/1b6 w - - 0 1", "e4", "d4 d5 e3 e5 f3 f4");
        // two checks: the king must go
        can("4r2k/8/8/8/7b/8/6R1/4K3 w - - 0 1", "g2", "");
        // a man that is guarded cannot be taken by the king, one that is not can
        can("7k/8/8/8/8/8/r7/K7 w - - 0 1", "a1", "a2 b1");
        can("7k/8/8/8/8/1n6/1r6/K7 w - - 0 1", "a1", "b2");
        can("7k/8/8/8/8/2p5/1r6/K7 w - - 0 1", "a1", "");
        // both pawns leave the line at once
        can("8/8/8/K1pP3r/8/8/8/7k w - c6 0 1", "d5", "d6");
        can("8/8/8/K1pP3n/8/8/8/7k w - c6 0 1", "d5", "c6 d6");
        can("8/1K6/8/3pP3/8/5b2/8/7k w - d6 0 1", "e5", "e6");
        can("8/1K6/8/3pP3/8/5n2/8/7k w - d6 0 1", "e5", "d6 e6");
        // with a PASSANT this holds for the other men as well, and for the king
        can("4r2k/8/8/1pP5/8/8/4N3/4K3 w - b6 0 1", "e2", "");
        can("4r2k/8/8/1pP5/8/8/4N3/4K3 w - b6 0 1", "c5", "b6 c6");
        can("7k/8/8/1pP5/7b/8/5B2/4K3 w - b6 0 1", "f2", "g3 h4");
        can("3r3k/8/8/1pP5/8/8/8/4K3 w - b6 0 1", "e1", "e2 f1 f2");
        can("4r2k/8/8/1pP5/8/8/8/4K2N w - b6 0 1", "h1", "");
        can("4r2k/8/8/1pP5/8/8/8/4K2N w - b6 0 1", "c5", "");
        // the pawn that gives the check is taken in passing
        can("7k/8/8/3pP3/2K5/8/8/8 w - d6 0 1", "e5", "d6");
        can("7k/8/8/3pP3/2K5/8/8/8 w - - 0 1", "e5", "");
    }

    private static void after(String text, String word, String due) {
        GameHall hall = Check.hall(text);
        hall.proceed(Check.place(hall, word));
        Check.due(word + " in " + text, Check.record(hall), due);
    }

    /** "rights of a side go when its king moves; a right goes when a rook's corner is from or to." */
    private static void rightsGo() {
        String home = "r3k2r/8/8/8/8/8/8/R3K2R w KQkq - 3 5";
        after(home, "Kf1", "r3k2r/8/8/8/8/8/8/R4K1R b kq - 4 5");
        after(home, "0-0", "r3k2r/8/8/8/8/8/8/R4RK1 b kq - 4 5");
        after(home, "0-0-0", "r3k2r/8/8/8/8/8/8/2KR3R b kq - 4 5");
        after(home, "Rb1", "r3k2r/8/8/8/8/8/8/1R2K2R b Kkq - 4 5");
        after(home, "Rg1", "r3k2r/8/8/8/8/8/8/R3K1R1 b Qkq - 4 5");
        after(home, "Rxa8+", "R3k2r/8/8/8/8/8/8/4K2R b Kk - 0 5");
        after(home, "Rxh8+", "r3k2R/8/8/8/8/8/8/R3K3 b Qq - 0 5");
        String black = "r3k2r/8/8/8/8/8/8/R3K2R b KQkq - 3 5";
        after(black, "Kd7", "r6r/3k4/8/8/8/8/8/R3K2R w KQ - 4 6");
        after(black, "0-0", "r4rk1/8/8/8/8/8/8/R3K2R w KQ - 4 6");
        after(black, "0-0-0", "2kr3r/8/8/8/8/8/8/R3K2R w KQ - 4 6");
        after(black, "Rb8", "1r2k2r/8/8/8/8/8/8/R3K2R w KQk - 4 6");
        after(black, "Rg8", "r3k1r1/8/8/8/8/8/8/R3K2R w KQq - 4 6");
        after(black, "Rxa1+", "4k2r/8/8/8/8/8/8/r3K2R w Kk - 0 6");
        after(black, "Rxh1+", "r3k3/8/8/8/8/8/8/R3K2r w Qq - 0 6");
        // "to": another man than a rook takes the rook, and a pawn that becomes something
        after("r3k2r/8/8/8/4b3/8/8/R3K2R b KQkq - 3 5", "Bxh1", "r3k2r/8/8/8/8/8/8/R3K2b w Qkq - 0 6");
        after("r3k2r/1P6/8/8/8/8/8/R3K2R w KQkq - 3 5", "bxa8R+", "R3k2r/8/8/8/8/8/8/R3K2R b KQk - 0 5");
        // another king's move, or another rook's, leaves them
        after("r3k2r/8/8/3R4/8/8/8/R3K2R w KQkq - 3 5", "Rd6", "r3k2r/8/3R4/8/8/8/8/R3K2R b KQkq - 4 5");
        // a right that has gone does not come back with the men
        GameHall hall = Check.hall("r3k2r/8/8/8/8/8/8/R3K2R w KQkq - 0 1 Rb1 Rb8 Ra1 Ra8 Rg1 Rg8 Rh1 Rh8");
        Check.due("rights", hall.status(6), 0);
        Check.due("the men are home", Check.record(hall), "r3k2r/8/8/8/8/8/8/R3K2R w - - 8 5");
    }

    /** "The PASSANT is the file of a pawn that went two ranks, if a pawn of the other side stands beside it". */
    private static void passantIsSet() {
        for (int file = 0; file < 8; file++) {
            for (int other = 0; other < 8; other++) {
                for (int man : new int[] {7, 1, 8, 9, 10, 11}) {
                    passantIsSet(file, other, man, 3);
                }
                passantIsSet(file, other, 7, 2);
                passantIsSet(file, other, 7, 4);
            }
        }
        // two of them beside it, and a pawn that goes one rank
        after("4k3/8/8/8/1p1p4/8/2P5/4K3 w - - 3 1", "c4", "4k3/8/8/8/1pPp4/8/8/4K3 b - c3 0 1");
        after("4k3/8/8/8/1p1p4/8/2P5/4K3 w - - 3 1", "c3", "4k3/8/8/8/1p1p4/2P5/8/4K3 b - - 0 1");
        after("4k3/8/8/8/1p1p4/2P5/8/4K3 w - - 3 1", "c4", "4k3/8/8/8/1pPp4/8/8/4K3 b - - 0 1");
        // whether that pawn may then take is of no matter
        after("8/8/8/8/k2p3R/8/4P3/4K3 w - - 3 1", "e4", "8/8/8/8/k2pP2R/8/8/4K3 b - e3 0 1");
        // another man that goes two ranks
        after("4k3/8/8/8/1p6/8/R7/4K3 w - - 3 1", "Ra4", "4k3/8/8/8/Rp6/8/8/4K3 b - - 4 1");
    }

    private static void passantIsSet(int file, int other, int man, int rank) {
        Plain.Position p = new Plain.Position();
        p.men[file < 4 ? 7 : 0] = 6;
        p.men[file < 4 ? 63 : 56] = 12;
        p.men[8 + file] = 1;
        if (file == other || p.men[8 * rank + other] != 0) {
            return;
        }
        p.men[8 * rank + other] = man;
        boolean set = man == 7 && rank == 3 && Math.abs(file - other) == 1;
        for (String text : new String[] {Plain.record(p), Texts.mirrored(Plain.record(p))}) {
            GameHall hall = Check.hall(text);
            int side = hall.status(5);
            int move = side == 0 ? 8 + file + 64 * (24 + file) : 48 + file + 64 * (32 + file);
            int place = find(hall, move);
            if (place >= 0) {
                hall.proceed(place);
                Check.due("PASSANT behind " + move + " in " + text, hall.status(7), set ? file : -1);
            }
        }
    }

    private static int find(GameHall hall, int move) {
        int many = hall.legalMany();
        for (int k = 0; k < many; k++) {
            if (hall.legalMove(k) == move) {
                return k;
            }
        }
        return -1;
    }

    /** "(a RECORD's PASSANT is as it says till then, whether a pawn can use it or not)": behind any move it is gone. */
    private static void recordsPassant() {
        for (String text : new String[] {"4k3/8/8/3p4/8/8/8/4K3 w - d6 0 1", "4k3/8/8/3pP3/8/8/8/4K3 w - d6 0 1",
            "4k3/4r3/8/3pP3/8/8/8/4K3 w - d6 0 1"}) {
            GameHall hall = Check.hall(text);
            Check.due("PASSANT of " + text, hall.status(7), 3);
            Check.due("record of " + text, Check.record(hall), text);
            hall.proceed(0);
            Check.due("PASSANT behind a move of " + text, hall.status(7), -1);
            hall.retreat();
            Check.due("PASSANT again", hall.status(7), 3);
        }
    }

    /** "The CLOCK is 0 if a pawn moved or something was taken, else 1 more". */
    private static void clock() {
        String text = "4k3/P6p/8/3pP3/8/8/1P6/R3K1n1 w Q - 41 9";
        for (String word : new String[] {"b3", "b4", "e6", "a8Q+", "a8N"}) {
            clock(text, word, 0);
        }
        clock("4k3/8/8/3pP3/8/8/8/4K3 w - d6 0 9", "exd6", 0);
        clock("4k3/8/8/8/8/8/8/R3K1nR w KQ - 41 9", "Rxg1", 0);
        clock("4k3/8/8/8/8/3p4/4P3/4K3 w - - 41 9", "exd3", 0);
        clock(text, "0-0-0", 42);
        clock(text, "Kd2", 42);
        clock(text, "Ra3", 42);
        clock("4k3/8/8/8/8/8/8/R3K3 w - - 0 9", "Ra3", 1);
        clock("4k3/8/8/8/8/8/8/R3K3 w - - 149 9", "Ra3", 150);
    }

    private static void clock(String text, String word, int due) {
        GameHall hall = Check.hall(text);
        hall.proceed(Check.place(hall, word));
        Check.due("CLOCK behind " + word + " in " + text, hall.status(8), due);
        Check.due("CLOCK in the row", hall.historyOf(1, 1), due);
    }

    /** "the NUMBER grows by 1 behind black's moves; the other side is to move." */
    private static void number() {
        GameHall hall = Check.hall("4k3/8/8/8/8/8/8/R3K3 w - - 0 9999");
        int[] numbers = {9999, 9999, 10000, 10000, 10001};
        for (int k = 0; k < numbers.length; k++) {
            Check.due("NUMBER behind " + k + " moves", hall.status(9), numbers[k]);
            Check.due("SIDE behind " + k + " moves", hall.status(5), k % 2);
            hall.proceed(0);
        }
    }

    /** "The LIST of a position has its LEGAL moves by from, then to, then what is become, the least first". */
    private static void order() {
        for (String text : new String[] {Texts.START, Texts.MIXED, Texts.BECOMING, Texts.PINS, Texts.CHECKED,
            "nnn4k/1P5P/8/8/8/8/1p5p/N1N4K w - - 0 1"}) {
            inOrder(Check.hall(text), text);
            inOrder(Check.hall(Texts.mirrored(text)), Texts.mirrored(text));
        }
    }

    private static void inOrder(GameHall hall, String text) {
        int many = hall.legalMany();
        long before = -1;
        for (int k = 0; k < many; k++) {
            int move = hall.legalMove(k);
            long key = move % 64 * 1000L + move / 64 % 64 * 10 + move / 4096;
            Check.due("order at " + k + " of " + text, key > before, true);
            before = key;
        }
    }
}
