/** The first move that brings the mate nearer by one. */
public final class Promise15MatingMoveTest {
    public static void main(String[] args) {
        Check.dueThrow("without a game", IllegalStateException.class, () -> new GameHall(0).matingMove());
        mating("8/8/8/8/8/1K6/7R/1k6 w - - 0 1", "Rh1#");
        mating("8/8/8/8/8/1K6/7R/k7 b - - 0 1", "Kb1");
        mating("k7/2P5/1K6/8/8/8/8/8 w - - 0 1", "c8R#");
        none();
        toTheEnd("8/8/8/8/3k4/8/8/KR6 w - - 0 1");
        toTheEnd("8/8/8/8/3k4/8/8/KQ6 w - - 0 1");
        toTheEnd("8/8/8/8/8/8/1k5P/7K w - - 0 1");
        toTheEnd("kr6/8/8/3K4/8/8/8/8 b - - 0 1");
        toTheEnd("kq6/8/8/3K4/8/8/8/8 w - - 0 1");
        toTheEnd("7k/7p/1K6/8/8/8/8/8 b - - 0 1");
        byModel();
        Check.end("Promise15MatingMoveTest");
    }

    private static void mating(String text, String due) {
        GameHall hall = Check.hall(text);
        Check.due("matingMove of " + text, Check.unpack(hall.spelling(hall.matingMove())), due);
        Check.due("nothing changed", Check.record(hall), text);
    }

    private static void none() {
        for (String text : new String[] {Texts.START, "8/8/8/8/8/1K6/8/k6R b - - 0 1", "7k/8/8/8/8/8/8/K7 w - - 0 1",
            "7k/8/8/8/8/8/8/KB6 w - - 0 1", "7k/8/6Q1/8/8/8/8/K7 b - - 0 1", "8/8/8/8/8/8/1R6/k6K b - - 0 1",
            "8/8/8/8/8/8/2k5/R3K3 w Q - 0 1", "k7/8/K7/P7/8/8/8/8 w - - 0 1"}) {
            Check.due("matingMove of " + text, Check.hall(text).matingMove(), -1);
        }
    }

    /** Both sides make the mating move until there is mate: each makes the distance one less. */
    private static void toTheEnd(String text) {
        GameHall hall = Check.hall(text);
        int distance = hall.distanceToMate();
        Check.due("a distance of " + text, distance > 0, true);
        for (int left = distance; left > 0; left--) {
            Check.due("distance on the way from " + text, hall.distanceToMate(), left);
            hall.proceed(hall.matingMove());
        }
        Check.due("mate at the end of " + text, hall.status(4), 1);
        Check.due("no mating move then", hall.matingMove(), -1);
    }

    private static void byModel() {
        GameHall hall = new GameHall(0);
        for (String text : new String[] {"8/8/8/8/3k4/8/8/KR6 b - - 0 1", "8/8/3k4/8/8/8/5Q2/K7 w - - 0 1",
            "8/8/8/2k5/8/8/4P3/4K3 w - - 0 1", "4k3/8/4K3/4P3/8/8/8/8 w - - 0 1", "8/8/8/8/4P3/8/8/k5K1 b - e3 0 1",
            "1K6/8/8/8/8/4k3/4p3/8 b - - 0 1", "8/2k5/8/8/3r4/8/8/K7 w - - 0 1"}) {
            Plain plain = new Plain();
            for (int at = 0; at < text.length(); at += 20) {
                int[] n = Check.numbers(text, at);
                plain.tape(n[0], n[1], n[2], n[3], n[4]);
            }
            plain.submit(Check.tail(text));
            Check.submit(hall, text);
            Check.due("matingMove of " + text, hall.matingMove(), plain.matingMove());
        }
    }
}
