/** Moves in the one right spelling. */
public final class Promise08SpellingTest {
    public static void main(String[] args) {
        all(Texts.START, "Na3 Nc3 Nf3 Nh3 a3 a4 b3 b4 c3 c4 d3 d4 e3 e4 f3 f4 g3 g4 h3 h4");
        castling();
        origins();
        pawns();
        signs();
        packing();
        wrongInputs();
        Check.end("Promise08SpellingTest");
    }

    private static void all(String text, String due) {
        Check.due("spellings of " + text, Check.spellings(Check.hall(text)), due);
    }

    private static void has(String text, String word, boolean due) {
        String spellings = " " + Check.spellings(Check.hall(text)) + " ";
        Check.due(word + " among" + spellings, spellings.contains(" " + word + " "), due);
    }

    private static void castling() {
        all("4k3/8/8/8/8/p6p/P6P/R3K2R w KQ - 0 1", "Rb1 Rc1 Rd1 0-0-0 Kd1 Kf1 0-0 Kd2 Ke2 Kf2 Rf1 Rg1");
        all("r3k2r/p6p/P6P/8/8/8/8/4K3 b kq - 0 1", "Rb8 Rc8 Rd8 Kd7 Ke7 Kf7 0-0-0 Kd8 Kf8 0-0 Rf8 Rg8");
        has("5k2/8/8/8/8/8/8/4K2R w K - 0 1", "0-0+", true);
        has("3k4/8/8/8/8/8/8/R3K3 w Q - 0 1", "0-0-0+", true);
        has("3k4/8/8/8/8/3p1p2/3P1P2/R3K3 w Q - 0 1", "0-0-0", true);
        // mate by castling
        has("2rkr3/2p1p3/8/8/8/8/8/R3K3 w Q - 0 1", "0-0-0#", true);
    }

    private static void origins() {
        // rooks on a7, a3, e3: file, rank, and none
        String rooks = "7k/R7/8/8/8/R3R3/8/4K3 w - - 0 1";
        for (String word : "Rac3 Rec3 R7a5 R3a5 Re5 Ra8+ Rb7 Ra1 Re8# R7a4".split(" ")) {
            has(rooks, word, true);
        }
        for (String word : "Ra5 Rc3 Raa5 Ra7a5".split(" ")) {
            has(rooks, word, false);
        }
        // queens on a4, d4, a1
        String queens = "6k1/8/8/8/Q2Q4/8/8/Q5K1 w - - 0 1";
        for (String word : "Qa4d1 Q1d1 Qdd1 Qad7 Qdd7 Q4a3 Q1a3 Qc2".split(" ")) {
            has(queens, word, true);
        }
        for (String word : "Qad1 Q4d1 Qd4d1 Qd1 Qa4d7 Q4d7 Qa3".split(" ")) {
            has(queens, word, false);
        }
        // the same in the other corner
        String turned = "1k5q/8/8/4q2q/8/8/8/1K6 b - - 0 1";
        for (String word : "Qh5e8 Q8e8 Qee8 Qhe2 Qee2 Q5h6 Q8h6 Qf7 Qb2#".split(" ")) {
            has(turned, word, true);
        }
        for (String word : "Qhe8 Q5e8 Qe5e8 Qh8e8 Qe8 Q5e2".split(" ")) {
            has(turned, word, false);
        }
        all("k7/8/8/8/8/8/8/KN1N3q w - - 0 1", "Ka2 Kb2 Nd2 Na3 Nbc3 Nb2 Nf2 Ndc3 Ne3");
        // a rival that may not move is none: it would leave its king attacked
        has("4r2k/8/8/8/8/2N1N3/8/4K3 w - - 0 1", "Nd5", true);
        has("5r1k/8/8/8/8/2N1N3/8/4K3 w - - 0 1", "Ncd5", true);
        has("5r1k/8/8/8/8/2N1N3/8/4K3 w - - 0 1", "Ned5", true);
        // bishops of one colour, three of them
        String bishops = "6k1/8/8/B3B3/8/8/8/B6K w - - 0 1";
        for (String word : "Ba5c3 B1c3 Bec3".split(" ")) {
            has(bishops, word, true);
        }
        for (String word : "Bac3 B5c3 Ba1c3 Be5c3 Bc3".split(" ")) {
            has(bishops, word, false);
        }
        // with x behind the origin
        has("7k/8/8/8/R1p1R3/8/8/7K w - - 0 1", "Raxc4", true);
        has("7k/8/8/8/R1p1R3/8/8/7K w - - 0 1", "Rexc4", true);
        has("7k/8/8/8/R1p1R3/8/8/7K w - - 0 1", "Rxc4", false);
    }

    private static void pawns() {
        all("1r5k/P7/8/8/8/8/8/K7 w - - 0 1",
                "Ka2 a8N a8B a8R a8Q axb8N axb8B axb8R+ axb8Q+");
        all("7k/8/8/2PpP3/8/1r6/r7/7K w - d6 0 1", "Kg1 c6 cxd6 exd6 e6");
        all("4k3/8/8/8/1p1p4/P1P1P3/8/4K3 w - - 0 1", "Kd1 Kf1 Kd2 Ke2 Kf2 a4 axb4 cxb4 c4 cxd4 exd4 e4");
    }

    private static void signs() {
        has(Texts.START + " e4 f5", "Qh5+", true);
        has(Texts.START + " e4 e5 Bc4 Nc6 Qh5 Nf6", "Qxf7#", true);
        has(Texts.START + " f3 e5 g4", "Qh4#", true);
        // a check that is opened
        has("4k3/8/8/8/8/8/4N3/K3R3 w - - 0 1", "Nc3+", true);
        // a check that is opened by taking in passing
        has("8/8/8/R1pP3k/8/8/8/K7 w - c6 0 1", "dxc6+", true);
        // no + for a stalemate
        has("7k/8/8/6Q1/8/8/8/K7 w - - 0 1", "Qg6", true);
        // a pawn that becomes what mates
        has("7k/P5pp/8/8/8/8/8/K7 w - - 0 1", "a8Q#", true);
        has("7k/P5pp/8/8/8/8/8/K7 w - - 0 1", "a8R#", true);
        has("7k/P5pp/8/8/8/8/8/K7 w - - 0 1", "a8N", true);
        // the last answer is to take in passing: + and not #
        has("8/8/2Q5/k7/2p5/8/1PN5/7K w - - 0 1", "b4+", true);
        has("8/8/2Q5/k7/8/8/1PN5/7K w - - 0 1", "b4#", true);
    }

    private static void packing() {
        GameHall hall = Check.hall(Texts.START);
        Check.due("Na3", hall.spelling(0), 0x4E61330000000000L);
        Check.due("a3", hall.spelling(4), 0x6133000000000000L);
        GameHall castle = Check.hall("3k4/8/8/8/8/8/8/R3K3 w Q - 0 1");
        Check.due("0-0-0+", castle.spelling(Check.place(castle, "0-0-0+")), 0x302D302D302B0000L);
        GameHall taking = Check.hall("6k1/8/8/8/Q2Q4/8/8/Q2r3K w - - 0 1");
        Check.due("Qa4xd1", taking.spelling(Check.place(taking, "Qa4xd1")), 0x5161347864310000L);
        // the longest: seven characters
        GameHall longest = Check.hall("8/8/8/Q3r2k/8/8/8/Q3Q2K w - - 0 1");
        Check.due("Qa1xe5+", longest.spelling(Check.place(longest, "Qa1xe5+")), 0x5161317865352B00L);
    }

    private static void wrongInputs() {
        GameHall hall = Check.hall(Texts.START);
        Class<IndexOutOfBoundsException> index = IndexOutOfBoundsException.class;
        Check.dueThrow("spelling -1", index, () -> hall.spelling(-1));
        Check.dueThrow("spelling 20", index, () -> hall.spelling(20));
        Check.dueThrow("spelling least", index, () -> hall.spelling(Integer.MIN_VALUE));
        Check.dueThrow("spelling most", index, () -> hall.spelling(Integer.MAX_VALUE));
        Check.due("nothing changed", Check.record(hall), Texts.START);
    }
}
