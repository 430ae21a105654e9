/** Moves of the LIST are made: the verdict is answered, and the position is the next one. */
public final class Promise04ProceedTest {
    public static void main(String[] args) {
        ordinary();
        verdicts();
        repetition();
        wrongInputs();
        sixHundred();
        oddMoves();
        Check.end("Promise04ProceedTest");
    }

    private static int go(GameHall hall, String spelling) {
        return hall.proceed(Check.place(hall, spelling));
    }

    private static void ordinary() {
        GameHall hall = Check.hall(Texts.START);
        Check.due("e4", go(hall, "e4"), 0);
        Check.due("record", Check.record(hall), "rnbqkbnr/pppppppp/8/8/4P3/8/PPPP1PPP/RNBQKBNR b KQkq - 0 1");
        Check.due("Nf6", go(hall, "Nf6"), 0);
        Check.due("record", Check.record(hall), "rnbqkb1r/pppppppp/5n2/8/4P3/8/PPPP1PPP/RNBQKBNR w KQkq - 1 2");
        Check.due("positions", hall.status(3), 3);
    }

    private static void verdicts() {
        Check.due("mate", go(Check.hall(Texts.START + " f3 e5 g4"), "Qh4#"), 1);
        Check.due("stalemate", go(Check.hall("7k/8/8/6Q1/8/8/8/K7 w - - 0 1"), "Qg6"), 2);
        Check.due("dead: nothing", go(Check.hall("7k/8/8/8/8/8/p7/K7 w - - 0 1"), "Kxa2"), 3);
        Check.due("dead: a bishop", go(Check.hall("7k/8/8/8/8/2b5/p7/2K5 b - - 0 1"), "a1B"), 0);
        Check.due("dead: a knight", go(Check.hall("7k/8/8/8/8/8/pN6/K7 w - - 0 1"), "Kxa2"), 3);
        Check.due("dead: bishops of one colour", go(Check.hall("7k/8/8/8/3b4/8/p7/K1B5 w - - 0 1"), "Kxa2"), 3);
        Check.due("not dead: of both colours", go(Check.hall("7k/8/8/8/4b3/8/p7/K1B5 w - - 0 1"), "Kxa2"), 0);
        Check.due("not dead: of one side", go(Check.hall("5k2/8/8/8/3B4/8/p7/K1B5 w - - 0 1"), "Kxa2"), 0);
        Check.due("not dead: two knights", go(Check.hall("7k/8/8/8/3n4/8/p7/K1N5 w - - 0 1"), "Kxa2"), 0);
        Check.due("not dead: bishop and knight", go(Check.hall("7k/8/8/8/3b4/8/p7/K1N5 w - - 0 1"), "Kxa2"), 0);
        Check.due("clock 99", go(Check.hall("7k/8/8/8/8/8/8/K5R1 w - - 98 1"), "Rf1"), 0);
        Check.due("clock 100", go(Check.hall("7k/8/8/8/8/8/8/K5R1 w - - 99 1"), "Rf1"), 7);
        Check.due("clock 149", go(Check.hall("7k/8/8/8/8/8/8/K5R1 w - - 148 1"), "Rf1"), 7);
        Check.due("clock 150", go(Check.hall("7k/8/8/8/8/8/8/K5R1 w - - 149 1"), "Rf1"), 5);
        Check.due("mate comes first", go(Check.hall("7k/R7/8/8/8/8/8/1R4K1 w - - 149 1"), "Rb8#"), 1);
        Check.due("stalemate before clock", go(Check.hall("7k/8/8/6Q1/8/8/8/K7 w - - 149 1"), "Qg6"), 2);
        Check.due("stalemate before dead", go(Check.hall("7k/8/6Kp/3B4/8/8/8/8 w - - 0 1"), "Kxh6"), 2);
        Check.due("dead before clock", go(Check.hall("7k/8/8/8/8/8/1r6/K6B w - - 149 1"), "Kxb2"), 3);
        Check.due("a taking sets the clock to 0", go(Check.hall("6k1/8/8/8/8/8/1r6/K6R w - - 149 1"), "Kxb2"), 0);
    }

    private static void repetition() {
        GameHall hall = Check.hall("4k3/8/8/8/8/8/4P3/4K3 w - - 90 1");
        String[] round = {"Kd1", "Kd8", "Ke1", "Ke8"};
        int[][] due = {{0, 0, 0, 0}, {0, 0, 0, 6}, {6, 8, 8, 8}, {8, 8, 8, 4}};
        for (int k = 0; k < 4; k++) {
            for (int j = 0; j < 4; j++) {
                Check.due("round " + k + " " + round[j], go(hall, round[j]), due[k][j]);
            }
        }
        Check.dueThrow("proceed when it has ended", IllegalStateException.class, () -> hall.proceed(0));
        hall.retreat();
        Check.due("it goes on then", go(hall, "Kc8"), 7);
    }

    private static void wrongInputs() {
        GameHall hall = Check.hall(Texts.START);
        Class<IndexOutOfBoundsException> index = IndexOutOfBoundsException.class;
        Class<IllegalStateException> state = IllegalStateException.class;
        Check.dueThrow("proceed -1", index, () -> hall.proceed(-1));
        Check.dueThrow("proceed 20", index, () -> hall.proceed(20));
        Check.dueThrow("proceed least", index, () -> hall.proceed(Integer.MIN_VALUE));
        Check.dueThrow("proceed most", index, () -> hall.proceed(Integer.MAX_VALUE));
        Check.due("nothing changed", Check.record(hall), Texts.START);
        Check.due("positions", hall.status(3), 1);
        GameHall ended = Check.hall("7k/8/8/8/8/8/8/K6B w - - 0 1");
        Check.due("its LIST has moves", ended.legalMany() > 0, true);
        Check.dueThrow("proceed in a dead position", state, () -> ended.proceed(0));
        Check.dueThrow("no place either", state, () -> ended.proceed(-1));
        GameHall late = Check.hall("7k/8/8/8/8/8/8/K5R1 w - - 150 1");
        Check.dueThrow("proceed at clock 150", state, () -> late.proceed(0));
        GameHall mate = Check.hall(Texts.START + " f3 e5 g4 Qh4#");
        Check.dueThrow("proceed at mate", state, () -> mate.proceed(0));
    }

    private static void sixHundred() {
        GameHall hall = Check.hall(LongGame.text(599));
        Check.due("the 600th", hall.proceed(0) >= 0, true);
        Check.due("positions", hall.status(3), 601);
        boolean looks = hall.linesTo(2) > 0 && hall.bestAt(2) >= 0 && hall.spelling(0) != 0;
        Check.due("one can look ahead there", looks, true);
        Check.due("record", Check.record(hall).equals(Texts.START), false);
        Check.dueThrow("the 601st", IllegalStateException.class, () -> hall.proceed(0));
        Check.dueThrow("the 601st, no place", IllegalStateException.class, () -> hall.proceed(-1));
        Check.due("retreat", hall.retreat(), true);
        Check.due("another 600th", hall.proceed(1) >= 0, true);
        Check.due("positions", hall.status(3), 601);
    }

    private static void oddMoves() {
        GameHall hall = Check.hall("r3k2r/8/8/8/8/8/8/R3K2R w KQkq - 5 7");
        go(hall, "0-0");
        Check.due("castled", Check.record(hall), "r3k2r/8/8/8/8/8/8/R4RK1 b kq - 6 7");
        go(hall, "0-0-0");
        Check.due("castled", Check.record(hall), "2kr3r/8/8/8/8/8/8/R4RK1 w - - 7 8");
        GameHall rooks = Check.hall("r3k2r/8/8/8/8/8/8/R3K2R w KQkq - 5 7");
        go(rooks, "Rxh8+");
        Check.due("two corners", Check.record(rooks), "r3k2R/8/8/8/8/8/8/R3K3 b Qq - 0 7");
        String[][] cases = {{"w", "Ra2", "r3k2r/8/8/8/8/8/R7/4K2R b Kkq - 6 7"},
            {"w", "Rh2", "r3k2r/8/8/8/8/8/7R/R3K3 b Qkq - 6 7"}, {"w", "Ke2", "r3k2r/8/8/8/8/8/4K3/R6R b kq - 6 7"},
            {"b", "Ra7", "4k2r/r7/8/8/8/8/8/R3K2R w KQk - 6 8"}, {"b", "Rh7", "r3k3/7r/8/8/8/8/8/R3K2R w KQq - 6 8"},
            {"b", "Ke7", "r6r/4k3/8/8/8/8/8/R3K2R w KQ - 6 8"}, {"b", "Rxa1+", "4k2r/8/8/8/8/8/8/r3K2R w Kk - 0 8"},
            {"b", "0-0", "r4rk1/8/8/8/8/8/8/R3K2R w KQ - 6 8"}, {"w", "0-0-0", "r3k2r/8/8/8/8/8/8/2KR3R b kq - 6 7"}};
        for (String[] one : cases) {
            GameHall home = Check.hall("r3k2r/8/8/8/8/8/8/R3K2R " + one[0] + " KQkq - 5 7");
            go(home, one[1]);
            Check.due("after " + one[1], Check.record(home), one[2]);
        }
        GameHall beside = Check.hall("4k3/8/8/8/3p4/8/4P3/4K3 w - - 3 1");
        go(beside, "e4");
        Check.due("a pawn beside", Check.record(beside), "4k3/8/8/8/3pP3/8/8/4K3 b - e3 0 1");
        go(beside, "dxe3");
        Check.due("taken in passing", Check.record(beside), "4k3/8/8/8/8/4p3/8/4K3 w - - 0 2");
        GameHall away = Check.hall("4k3/8/8/8/2p5/8/4P3/4K3 w - - 3 1");
        go(away, "e4");
        Check.due("no pawn beside", Check.record(away), "4k3/8/8/8/2p1P3/8/8/4K3 b - - 0 1");
        GameHall edge = Check.hall("4k3/8/8/7p/7p/8/P7/4K3 w - - 3 1");
        go(edge, "a4");
        Check.due("the h file is not beside the a file", Check.record(edge), "4k3/8/8/7p/P6p/8/8/4K3 b - - 0 1");
        GameHall corner = Check.hall("4k3/8/8/8/8/7p/P7/4K3 w - - 3 1");
        go(corner, "a4");
        Check.due("nor is it a rank below", Check.record(corner), "4k3/8/8/8/P7/7p/8/4K3 b - - 0 1");
        GameHall wall = Check.hall("4k3/8/8/p7/8/8/7P/4K3 w - - 3 1");
        go(wall, "h4");
        Check.due("nor the a file beside the h file", Check.record(wall), "4k3/8/8/p7/7P/8/8/4K3 b - - 0 1");
        GameHall one = Check.hall("4k3/8/8/8/8/3pP3/8/4K3 w - - 3 1");
        go(one, "e4");
        Check.due("one rank only", Check.record(one), "4k3/8/8/8/4P3/3p4/8/4K3 b - - 0 1");
        GameHall becomes = Check.hall("1r2k3/P7/8/8/8/8/8/4K3 w - - 3 1");
        go(becomes, "axb8N");
        Check.due("becomes a knight", Check.record(becomes), "1N2k3/8/8/8/8/8/8/4K3 b - - 0 1");
    }
}
