/** How far the mate is with a king and one man against a king. */
public final class Promise14DistanceToMateTest {
    public static void main(String[] args) {
        Check.dueThrow("without a game", IllegalStateException.class, () -> new GameHall(0).distanceToMate());
        mates();
        none();
        known();
        rightsAndPassants();
        longest();
        everyPosition();
        Check.end("Promise14DistanceToMateTest");
    }

    private static void distance(String text, int due) {
        GameHall hall = Check.hall(text);
        String record = Check.record(hall);
        Check.due("distanceToMate of " + text, hall.distanceToMate(), due);
        Check.due("nothing changed", Check.record(hall), record);
    }

    private static void mates() {
        distance("8/8/8/8/8/1K6/8/k6R b - - 0 1", 0);
        distance("8/8/8/8/8/1K6/1Q6/k7 b - - 0 1", 0);
        distance("K6r/8/1k6/8/8/8/8/8 w - - 0 1", 0);
        distance("8/8/8/8/8/1K6/7R/1k6 w - - 0 1", 1);
        distance("8/8/8/8/8/1K6/7R/k7 b - - 0 1", 2);
        // a pawn that mates by what it becomes
        distance("k7/2P5/1K6/8/8/8/8/8 w - - 0 1", 1);
        distance("8/8/8/8/8/1k6/2p5/K7 b - - 0 1", 1);
    }

    private static void none() {
        distance(Texts.START, -1);
        distance("7k/8/8/8/8/8/8/K7 w - - 0 1", -1);
        distance("7k/8/8/8/8/8/8/KB6 w - - 0 1", -1);
        distance("7k/8/8/8/8/8/8/KN6 b - - 0 1", -1);
        distance("7k/8/8/8/8/8/8/KRR5 w - - 0 1", -1);
        distance("7k/7p/8/8/8/8/8/KQ6 w - - 0 1", -1);
        // stalemate, and a man that is lost
        distance("7k/8/6Q1/8/8/8/8/K7 b - - 0 1", -1);
        distance("8/8/8/8/8/8/1R6/k6K b - - 0 1", -1);
        // a pawn on the edge with the king in its corner
        distance("k7/8/K7/P7/8/8/8/8 w - - 0 1", -1);
        distance("k7/P7/K7/8/8/8/8/8 b - - 0 1", -1);
    }

    private static void known() {
        // the king ahead of its pawn on the sixth rank wins, whoever is to move
        Check.due("it wins", Check.hall("4k3/8/4K3/4P3/8/8/8/8 w - - 0 1").distanceToMate() > 0, true);
        Check.due("it wins", Check.hall("4k3/8/4K3/4P3/8/8/8/8 b - - 0 1").distanceToMate() > 0, true);
        // with the pawn beside it the side to move matters
        Check.due("it wins", Check.hall("4k3/8/3KP3/8/8/8/8/8 w - - 0 1").distanceToMate() > 0, true);
        distance("4k3/8/3KP3/8/8/8/8/8 b - - 0 1", -1);
    }

    private static void rightsAndPassants() {
        distance("8/8/8/8/8/8/2k5/R3K3 w Q - 0 1", -1);
        Check.due("without the right", Check.hall("8/8/8/8/8/8/2k5/R3K3 w - - 0 1").distanceToMate() > 0, true);
        int plain = Check.hall("8/8/8/8/4P3/8/8/k5K1 b - - 0 1").distanceToMate();
        Check.due("the pawn runs", plain > 0, true);
        distance("8/8/8/8/4P3/8/8/k5K1 b - e3 0 1", plain);
    }

    /** The greatest distances of each man: 16 moves with the rook, 10 with the queen, 28 with the pawn. */
    private static void longest() {
        byte[] table = PlainEndings.table();
        int[] most = new int[6];
        int[] at = new int[6];
        for (int i = 1 << 19; i < table.length; i++) {
            if (table[i] > most[i >> 19]) {
                most[i >> 19] = table[i];
                at[i >> 19] = i;
            }
        }
        Check.due("pawn", most[1], 56);
        Check.due("knight", most[2], 0);
        Check.due("bishop", most[3], 0);
        Check.due("rook", most[4], 32);
        Check.due("queen", most[5], 20);
        for (int kind : new int[] {1, 4, 5}) {
            distance(Plain.record(position(at[kind], 0)), most[kind]);
            distance(Plain.record(position(at[kind], 1)), most[kind]);
        }
    }

    private static Plain.Position position(int i, int colour) {
        Plain.Position p = new Plain.Position();
        int turn = 56 * colour;
        p.men[i >> 13 & 63 ^ turn] = (i >> 19) + 6 * colour;
        p.men[i >> 7 & 63 ^ turn] = 6 + 6 * colour;
        p.men[i >> 1 & 63 ^ turn] = 12 - 6 * colour;
        p.side = (i & 1) == 0 ? colour : 1 - colour;
        return p;
    }

    /** Every 23rd position, of all men, with either colour. */
    private static void everyPosition() {
        byte[] table = PlainEndings.table();
        GameHall hall = new GameHall(0);
        int found = 0;
        int tried = 0;
        for (int i = 1 << 19; i < table.length; i += 23) {
            int man = i >> 13 & 63;
            int own = i >> 7 & 63;
            int other = i >> 1 & 63;
            if (man == own || man == other || own == other) {
                continue;
            }
            if (tried % 100 == 0) {
                // an object is used for 512 calls at most
                hall = new GameHall(0);
            }
            tried++;
            String text = Plain.record(position(i, i / 23 & 1));
            if (Check.submit(hall, text) == 0) {
                found++;
                Check.due("distanceToMate of " + text, hall.distanceToMate(), table[i]);
            }
        }
        Check.due("some positions", found > 50000, true);
    }
}
