/** What a position is worth, some half moves ahead. */
public final class Promise12ValueAtTest {
    public static void main(String[] args) {
        material();
        ends();
        mates();
        lookahead();
        depths();
        Check.end("Promise12ValueAtTest");
    }

    private static void value(String text, int depth, int due) {
        GameHall hall = Check.hall(text);
        String record = Check.record(hall);
        Check.due("valueAt " + depth + " of " + text, hall.valueAt(depth), due);
        Check.due("nothing changed", Check.record(hall), record);
    }

    private static void material() {
        value(Texts.START, 0, 0);
        value("4k3/8/8/8/8/8/P7/4K3 w - - 0 1", 0, 1);
        value("4k3/8/8/8/8/8/P7/4K3 b - - 0 1", 0, -1);
        value("4k3/8/8/8/8/8/N7/4K3 w - - 0 1", 0, 3);
        value("4k3/8/8/8/8/8/B7/4K3 w - - 0 1", 0, 3);
        value("4k3/8/8/8/8/8/R7/4K3 w - - 0 1", 0, 5);
        value("4k3/8/8/8/8/8/Q7/4K3 w - - 0 1", 0, 9);
        value("qnb1k3/8/8/8/8/8/R7/4K3 w - - 0 1", 0, -10);
        value("qnb1k3/8/8/8/8/8/R7/4K3 b - - 0 1", 0, 10);
        value(Texts.CROWD, 0, 9 * 9 + 2 * 5 + 2 * 3 + 2 * 3 - 2);
    }

    private static void ends() {
        for (int depth = 0; depth <= 3; depth++) {
            value(Texts.START + " f3 e5 g4 Qh4#", depth, -1000);
            value("7k/8/6Q1/8/8/8/8/K7 b - - 0 1", depth, 0);
        }
        // counts, clocks and dead positions do not matter
        value("4k3/8/8/8/8/8/R7/4K3 w - - 150 1", 1, 5);
        value("4k3/8/8/8/8/8/B7/4K3 w - - 0 1", 1, 3);
        value(Texts.START + " Nf3 Nf6 Ng1 Ng8".repeat(4), 1, 0);
    }

    private static void mates() {
        String one = Texts.START + " f3 e5 g4";
        value(one, 0, 0);
        value(one, 1, 999);
        value(one, 2, 999);
        value("7k/R7/8/8/8/8/8/1R4K1 w - - 0 1", 1, 999);
        value("7k/R7/8/8/8/8/8/1R4K1 w - - 0 1", 2, 999);
        // whatever is done the mate comes
        value("8/8/8/8/8/1K6/7R/k7 b - - 0 1", 1, -5);
        value("8/8/8/8/8/1K6/7R/k7 b - - 0 1", 2, -998);
        value("8/8/8/8/8/1K6/7R/k7 b - - 0 1", 3, -998);
        value("8/8/8/8/8/1K6/7R/k7 b - - 0 1", 4, -998);
        value("8/8/8/8/8/1K6/7R/1k6 w - - 0 1", 1, 999);
        // two moves to mate: seen by three half moves
        value("8/8/8/8/8/K7/6R1/1k6 w - - 0 1", 2, 5);
        value("8/8/8/8/8/2K5/7R/k7 w - - 0 1", 3, 997);
        value("8/8/8/8/8/2K5/7R/k7 w - - 0 1", 4, 997);
        value("8/8/8/8/8/2K5/7R/k7 w - - 0 1", 2, 5);
    }

    private static void lookahead() {
        // a queen can be taken: by one half move it is gained, by two it is seen that it is guarded
        value("3qk3/8/8/8/8/8/8/3QK3 w - - 0 1", 0, 0);
        value("3qk3/8/8/8/8/8/8/3QK3 w - - 0 1", 1, 9);
        value("3qk3/8/8/8/8/8/8/3QK3 w - - 0 1", 2, 0);
        // a pawn becomes a queen
        value("8/P6k/8/8/8/8/8/K7 w - - 0 1", 1, 9);
        // a knight does better: it forks
        value("8/P1k5/8/1q6/8/8/8/7K w - - 0 1", 1, 0);
        value("8/P1k5/8/1q6/8/8/8/7K w - - 0 1", 3, valueByModel("8/P1k5/8/1q6/8/8/8/7K w - - 0 1", 3));
        for (String text : new String[] {Texts.PINS, Texts.CHECKED}) {
            for (int depth = 0; depth <= 3; depth++) {
                value(text, depth, valueByModel(text, depth));
            }
        }
        for (String text : new String[] {Texts.MIXED, Texts.BECOMING, Texts.EVEN}) {
            value(text, 1, valueByModel(text, 1));
            value(text, 2, valueByModel(text, 2));
        }
    }

    private static int valueByModel(String text, int depth) {
        return Plain.value(Plain.read(text), depth);
    }

    private static void depths() {
        depths(Texts.START, 3);
        depths(Texts.MIXED, 2);
        depths("8/7k/8/8/3Q4/7P/8/K7 w - - 0 1", 3);
        depths("8/7k/8/8/3Q4/8/7P/K7 w - - 0 1", 2);
        // three men: four half moves, however many moves there are
        depths("8/7k/8/8/3Q4/8/K7/8 w - - 0 1", 4);
        depths("7k/8/8/8/8/8/8/K7 w - - 0 1", 4);
        Class<IllegalStateException> state = IllegalStateException.class;
        Check.dueThrow("without a game", state, () -> new GameHall(0).valueAt(0));
        Check.dueThrow("and no such depth", state, () -> new GameHall(0).valueAt(-1));
    }

    private static void depths(String text, int most) {
        GameHall hall = Check.hall(text);
        for (int depth : new int[] {Integer.MIN_VALUE, -1, 0, 1, 2, 3, 4, 5, 6, Integer.MAX_VALUE}) {
            if (depth < 0 || depth > most) {
                Check.dueThrow("valueAt " + depth + " of " + text, IllegalArgumentException.class,
                        () -> hall.valueAt(depth));
            } else {
                Check.due("valueAt " + depth + " of " + text, hall.valueAt(depth) > -1000, true);
            }
        }
    }
}
