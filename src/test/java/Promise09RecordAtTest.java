/** The record of the position, eight characters a call. */
public final class Promise09RecordAtTest {
    public static void main(String[] args) {
        Check.due("without a game", new GameHall(0).recordAt(0), 0);
        packing();
        roundTrips();
        afterMoves();
        bigNumbers();
        Check.end("Promise09RecordAtTest");
    }

    private static void packing() {
        GameHall hall = Check.hall(Texts.START);
        Check.due("rnbqkbnr", hall.recordAt(0), 0x726E62716B626E72L);
        Check.due("/ppppppp", hall.recordAt(1), 0x2F70707070707070L);
        Check.due("the end", hall.recordAt(6), Plain.pack(Texts.START.substring(48)));
        // 56 characters: the seventh part is the last one, and it is full
        Check.due("length", Texts.START.length(), 56);
        for (int k : new int[] {7, 8, 11, 12, 13, 1000, Integer.MAX_VALUE, 1 << 29, (1 << 29) + 1, 1 << 30}) {
            Check.due("beyond " + k, hall.recordAt(k), 0);
        }
        for (int k : new int[] {-1, -2, -7, Integer.MIN_VALUE, -(1 << 29), -(1 << 29) + 1}) {
            Check.due("below " + k, hall.recordAt(k), 0);
        }
        GameHall small = Check.hall("7k/8/8/8/8/8/8/K7 w - - 0 1");
        Check.due("a part that is not full", small.recordAt(3), 0x3020310000000000L);
    }

    private static void roundTrips() {
        for (String text : new String[] {Texts.START, Texts.MIXED, Texts.PINS, Texts.CHECKED, Texts.BECOMING,
            Texts.EVEN, Texts.CROWD, "4k3/8/8/8/4P3/8/8/4K3 b - e3 0 1", "4k3/8/8/p7/8/8/8/4K3 w - a6 0 9999",
            "4k3/8/8/8/8/8/8/4K2R b K - 999 1", "r3k3/8/8/8/8/8/8/4K3 b q - 10 100",
            "1k1n1n1r/p1p1p1p1/1p1p1p2/1P1P1P1P/P1P1P1P1/1N6/8/1K1R1B2 w - - 7 70"}) {
            GameHall hall = new GameHall(5);
            Check.due("submit of " + text, Check.submit(hall, text), 0);
            Check.due("record", Check.record(hall), text);
        }
    }

    private static void afterMoves() {
        String passant = "rnbqkbnr/ppp1p1pp/8/3pPp2/8/8/PPPP1PPP/RNBQKBNR w KQkq f6 0 3";
        GameHall hall = Check.hall(Texts.START + " e4 d5 e5 f5");
        Check.due("with a PASSANT", Check.record(hall), passant);
        hall.proceed(Check.place(hall, "exf6"));
        Check.due("without it", Check.record(hall), "rnbqkbnr/ppp1p1pp/5P2/3p4/8/8/PPPP1PPP/RNBQKBNR b KQkq - 0 3");
        hall.retreat();
        Check.due("with it again", Check.record(hall), passant);
    }

    /** The number of a position can be more than a text may say. */
    private static void bigNumbers() {
        GameHall hall = Check.hall("7k/8/8/8/8/8/8/K5R1 b - - 99 9999");
        hall.proceed(0);
        Check.due("clock and number", Check.record(hall), "8/7k/8/8/8/8/8/K5R1 w - - 100 10000");
        Check.due("number", hall.status(9), 10000);
    }
}
