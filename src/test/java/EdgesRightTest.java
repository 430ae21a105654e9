/** The edges of a RIGHT position: each sentence of the document about it has a method here, and stands above it. */
public final class EdgesRightTest {
    private static final int[] LIMITS = {0, 8, 2, 2, 2, 1};

    public static void main(String[] args) {
        oneKing();
        lastRanks();
        eightPawns();
        aboveTheLimits();
        aboveTogether();
        castlingMen();
        passants();
        notToMove();
        leastNumber();
        Check.end("EdgesRightTest");
    }

    private static int square(String name) {
        return name.charAt(0) - 'a' + 8 * (name.charAt(1) - '1');
    }

    private static void fault(Plain.Position p, int fault) {
        Check.fault(Plain.record(p), fault);
    }

    /** "there is one king of each side": none, or two, or more are a fault. */
    private static void oneKing() {
        for (int white = 0; white <= 3; white++) {
            for (int black = 0; black <= 3; black++) {
                Plain.Position p = new Plain.Position();
                for (int k = 0; k < white; k++) {
                    p.men[2 * k] = 6;
                }
                for (int k = 0; k < black; k++) {
                    p.men[63 - 2 * k] = 12;
                }
                fault(p, white == 1 && black == 1 ? 0 : 7);
                p.side = 1;
                fault(p, white == 1 && black == 1 ? 0 : 7);
            }
        }
        Check.fault("kkkkkkkk/8/8/8/8/8/8/K7 w - - 0 1", 7);
        Check.fault("k7/8/8/8/8/8/8/KKKKKKKK w - - 0 1", 7);
    }

    /** "no pawn on the first or eighth rank": of either side, on any file; on the second and the seventh it may be. */
    private static void lastRanks() {
        for (int square = 0; square < 64; square++) {
            for (int pawn = 1; pawn <= 7; pawn += 6) {
                Plain.Position p = new Plain.Position();
                p.men[square("c4")] = 6;
                p.men[square("f4")] = 12;
                if (p.men[square] != 0) {
                    continue;
                }
                p.men[square] = pawn;
                // the side whose king the pawn could attack is to move
                p.side = pawn == 1 ? 1 : 0;
                fault(p, square < 8 || square >= 56 ? 8 : 0);
            }
        }
    }

    /** A side's men besides its king, put on the board from the edge in; the other side is to move. */
    private static Plain.Position camp(int colour, int... many) {
        Plain.Position p = new Plain.Position();
        p.side = 1 - colour;
        p.men[square(colour == 0 ? "a1" : "a8")] = 6 + 6 * colour;
        p.men[square(colour == 0 ? "h8" : "h1")] = 12 - 6 * colour;
        int at = 8;
        for (int kind = 1; kind <= 5; kind++) {
            for (int k = 0; k < many[kind]; k++) {
                p.men[at ^ 56 * colour] = kind + 6 * colour;
                at++;
            }
        }
        return p;
    }

    private static void crowd(int fault, int... many) {
        for (int colour = 0; colour < 2; colour++) {
            fault(camp(colour, many), fault);
            // the men that the other side lacks are of no matter, nor those that it has
            Plain.Position p = camp(colour, many);
            p.men[square(colour == 0 ? "h7" : "h2")] = 7 - 6 * colour;
            fault(p, fault);
        }
    }

    /** "of each side at most 8 pawns". */
    private static void eightPawns() {
        for (int pawns = 0; pawns <= 12; pawns++) {
            crowd(pawns <= 8 ? 0 : 8, 0, pawns, 0, 0, 0, 0);
        }
        Check.fault("4k3/pppppppp/8/8/8/8/PPPPPPPP/4K3 w - - 0 1", 0);
        Check.fault("4k3/pppppppp/p7/8/8/8/PPPPPPP1/4K3 w - - 0 1", 8);
        Check.fault("4k3/ppppppp1/8/8/8/P7/PPPPPPPP/4K3 b - - 0 1", 8);
    }

    /** "what it has above 2 knights, 2 bishops, 2 rooks and 1 queen is ... not more than the pawns fewer than 8". */
    private static void aboveTheLimits() {
        for (int kind = 2; kind <= 5; kind++) {
            for (int pawns = 0; pawns <= 8; pawns++) {
                int most = LIMITS[kind] + 8 - pawns;
                for (int many = Math.max(0, most - 2); many <= most + 2; many++) {
                    int[] men = {0, pawns, 0, 0, 0, 0};
                    men[kind] = many;
                    crowd(many <= most ? 0 : 8, men);
                }
            }
        }
    }

    /** "... is together not more than": the kinds are counted together, and what is lacking of one does not count. */
    private static void aboveTogether() {
        crowd(0, 0, 8, 2, 2, 2, 1);
        crowd(8, 0, 8, 3, 2, 2, 1);
        crowd(8, 0, 8, 2, 3, 2, 1);
        crowd(8, 0, 8, 2, 2, 3, 1);
        crowd(8, 0, 8, 2, 2, 2, 2);
        crowd(0, 0, 4, 3, 3, 3, 2);
        crowd(8, 0, 5, 3, 3, 3, 2);
        crowd(0, 0, 0, 4, 4, 4, 3);
        crowd(8, 0, 0, 5, 4, 4, 3);
        crowd(8, 0, 0, 4, 5, 4, 3);
        crowd(8, 0, 0, 4, 4, 5, 3);
        crowd(8, 0, 0, 4, 4, 4, 4);
        crowd(8, 0, 1, 4, 4, 4, 3);
        // 8 pawns, no knights and three bishops: one above
        crowd(8, 0, 8, 0, 3, 0, 0);
        crowd(8, 0, 8, 3, 0, 0, 0);
        crowd(8, 0, 8, 0, 0, 3, 0);
        crowd(8, 0, 8, 0, 0, 0, 2);
        crowd(8, 0, 7, 0, 0, 0, 3);
        crowd(0, 0, 7, 0, 0, 0, 2);
        // 9 pawns are too many also where all other men are lacking
        crowd(8, 0, 9, 0, 0, 0, 0);
    }

    /** "for each right to castle the king and the rook stand on e and h (king's side) or a (queen's)". */
    private static void castlingMen() {
        for (int right = 0; right < 4; right++) {
            int own = right < 2 ? 0 : 6;
            int home = right < 2 ? 4 : 60;
            int corner = right % 2 == 0 ? home + 3 : home - 4;
            for (int man = 0; man <= 12; man++) {
                if (man != 6 && man != 12) {
                    boolean pawn = man == 1 || man == 7;
                    castlingMen(right, home, corner, man, man == 4 + own ? 0 : pawn ? 8 : 9);
                }
            }
            castlingMen(right, home - 1, corner, 4 + own, 9);
            castlingMen(right, home + 1, corner, 4 + own, 9);
            castlingMen(right, home ^ 56, corner, 4 + own, 9);
            castlingMen(right, home, right % 2 == 0 ? corner - 1 : corner + 1, 4 + own, 9);
            castlingMen(right, home, corner ^ 7, 4 + own, 9);
            castlingMen(right, home, corner ^ 56, 4 + own, 9);
        }
        // each right for itself: of the four only the second one fails
        Check.fault("r3k2r/8/8/8/8/8/8/1R2K2R w KQkq - 0 1", 9);
        Check.fault("r3k2r/8/8/8/8/8/8/1R2K2R w Kkq - 0 1", 0);
        Check.fault("r3k1r1/8/8/8/8/8/8/R3K2R b KQkq - 0 1", 9);
        Check.fault("r3k1r1/8/8/8/8/8/8/R3K2R b KQq - 0 1", 0);
        // without a right they may stand anywhere
        Check.fault("8/8/r3k2r/8/8/8/R3K2R/8 w - - 0 1", 0);
    }

    private static void castlingMen(int right, int king, int rook, int man, int fault) {
        int own = right < 2 ? 0 : 6;
        Plain.Position p = new Plain.Position();
        p.men[king] = 6 + own;
        p.men[own == 0 ? 36 : 28] = 12 - own;
        p.men[rook] = man;
        p.rights = 1 << right;
        fault(p, fault);
        p.side = 1;
        fault(p, fault);
    }

    /** "with a PASSANT a pawn of the side that is not to move stands on that file on its fourth rank, ..." */
    private static void passants() {
        for (int file = 0; file < 8; file++) {
            passant(file, 7, 0, 0, 0, 0);
            for (int man : new int[] {0, 1, 8, 9, 10, 11, 2, 3, 4, 5}) {
                passant(file, man, 0, 0, 0, 10);
            }
            // "its third and second rank there are empty"
            for (int man : new int[] {1, 2, 7, 8, 9, 10, 11}) {
                passant(file, 7, man, 0, 0, 10);
                passant(file, 7, 0, man, 0, 10);
            }
            // "and the CLOCK is 0"
            for (int clock : new int[] {1, 2, 100, 150, 999}) {
                passant(file, 7, 0, 0, clock, 10);
            }
        }
        // a pawn on the file beside, on its third or its fifth rank is none
        Check.fault("7k/8/8/p7/8/8/8/7K w - b6 0 1", 10);
        Check.fault("7k/8/8/2p5/8/8/8/7K w - b6 0 1", 10);
        Check.fault("7k/8/1p6/8/8/8/8/7K w - b6 0 1", 10);
        Check.fault("7k/1p6/8/8/8/8/8/7K w - b6 0 1", 10);
        Check.fault("7k/8/8/8/1p6/8/8/7K w - b6 0 1", 10);
        Check.fault("7k/8/8/7p/8/8/8/K7 w - a6 0 1", 10);
        Check.fault("7k/8/8/p7/8/8/8/7K w - h6 0 1", 10);
        Check.fault("7k/8/8/8/P7/8/8/7K b - b3 0 1", 10);
        Check.fault("7k/8/8/1P6/8/8/8/7K b - b3 0 1", 10);
        Check.fault("7k/8/8/8/8/1P6/8/7K b - b3 0 1", 10);
        // what stands on its first rank, or beside it, is of no matter; nor whether a pawn can use it
        Check.fault("nnk5/8/8/1p6/8/8/8/7K w - b6 0 1", 0);
        Check.fault("2k5/p1p5/p1p5/1p6/8/8/8/7K w - b6 0 1", 0);
        Check.fault("2k5/8/8/Pp6/1P6/8/8/7K w - b6 0 1", 0);
    }

    /** White to move: the men on the fifth, sixth and seventh rank of the file; and the same for the other side. */
    private static void passant(int file, int fifth, int sixth, int seventh, int clock, int fault) {
        Plain.Position p = new Plain.Position();
        p.men[0] = 6;
        p.men[file < 4 ? 63 : 56] = 12;
        p.men[32 + file] = fifth;
        p.men[40 + file] = sixth;
        p.men[48 + file] = seventh;
        p.passant = file;
        p.clock = clock;
        fault(p, fault);
        Check.fault(Texts.mirrored(Plain.record(p)), fault);
    }

    /** "and the king of the side that is not to move is not ATTACKED": that of the side to move may be. */
    private static void notToMove() {
        for (String men : new String[] {"4k3/8/8/8/8/8/4R3/4K3", "4k3/8/8/7B/8/8/8/4K3", "4k3/8/8/7Q/8/8/8/4K3",
            "4k3/8/3N4/8/8/8/8/4K3", "4k3/3P4/8/8/8/8/8/4K3", "4k3/5P2/8/8/8/8/8/4K3"}) {
            Check.fault(men + " w - - 0 1", 11);
            Check.fault(men + " b - - 0 1", 0);
            Check.fault(Texts.mirrored(men + " w - - 0 1"), 11);
            Check.fault(Texts.mirrored(men + " b - - 0 1"), 0);
        }
        // kings side by side attack one another
        for (String men : new String[] {"8/8/8/3kK3/8/8/8/8", "8/8/3k4/4K3/8/8/8/8", "8/8/4k3/4K3/8/8/8/8"}) {
            Check.fault(men + " w - - 0 1", 11);
            Check.fault(men + " b - - 0 1", 11);
        }
        // both attacked: still a fault
        Check.fault("4k3/8/8/8/8/4r3/R3K3/R6r w - - 0 1", 0);
        Check.fault("R3k3/8/8/8/8/4r3/4K3/8 w - - 0 1", 11);
        Check.fault("R3k3/8/8/8/8/4r3/4K3/8 b - - 0 1", 11);
    }

    /** "of 7 to 11 ... the least number that holds": all of their sums. */
    private static void leastNumber() {
        for (int faults = 0; faults < 32; faults++) {
            Plain.Position p = new Plain.Position();
            p.men[square("e1")] = 6;
            p.men[square("e8")] = 12;
            p.men[square("a3")] = (faults & 1) != 0 ? 12 : 7;
            p.men[square("h8")] = (faults & 2) != 0 ? 7 : 0;
            p.rights = (faults & 4) != 0 ? 1 : 0;
            p.passant = (faults & 8) != 0 ? 2 : -1;
            p.men[square("e4")] = (faults & 16) != 0 ? 4 : 0;
            int least = faults == 0 ? 0 : 7 + Integer.numberOfTrailingZeros(faults);
            fault(p, least);
            Check.fault(Texts.mirrored(Plain.record(p)), least);
            // and each of them comes before a fault of a move
            Check.fault(Plain.record(p) + " ??", faults == 0 ? 21 : least, faults == 0 ? 0 : -1);
        }
        // too many men and a pawn on a last rank are one number
        Check.fault("4k2P/8/8/8/8/P7/PPPPPPPP/4K3 w - - 0 1", 8);
    }
}
