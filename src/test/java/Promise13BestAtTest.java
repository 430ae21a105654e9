/** The first move of the LIST with the greatest value. */
public final class Promise13BestAtTest {
    public static void main(String[] args) {
        best(Texts.START, 0, "");
        best(Texts.START, 1, "Na3");
        best(Texts.START, 2, "Na3");
        best(Texts.START + " f3 e5 g4", 1, "Qh4#");
        best(Texts.START + " f3 e5 g4", 2, "Qh4#");
        best("3qk3/8/8/8/8/8/8/3QK3 w - - 0 1", 1, "Qxd8+");
        // a mate, and what is taken when there is none
        best("7k/R7/8/8/8/8/8/1R4K1 w - - 0 1", 1, "Rb8#");
        best("7k/R7/n7/8/8/8/8/1R4K1 w - - 0 1", 1, "Rxa6");
        best("7k/R7/n7/8/8/8/1n6/1R4K1 w - - 0 1", 1, "Rxb2");
        best("8/P6k/8/8/8/8/8/K7 w - - 0 1", 1, "a8Q");
        // what does not stalemate: the queen goes elsewhere
        best("7k/8/8/6Q1/8/8/8/K7 w - - 0 1", 1, "Kb1");
        best("8/8/8/8/8/2K5/7R/k7 w - - 0 1", 3, "Kb3");
        none();
        byModel();
        depths();
        Check.end("Promise13BestAtTest");
    }

    /** The spelling of the best move; "" for none. */
    private static void best(String text, int depth, String due) {
        GameHall hall = Check.hall(text);
        String record = Check.record(hall);
        int place = hall.bestAt(depth);
        Check.due("bestAt " + depth + " of " + text, place < 0 ? "" : Check.unpack(hall.spelling(place)), due);
        Check.due("nothing changed", Check.record(hall), record);
    }

    private static void none() {
        for (int depth = 0; depth <= 3; depth++) {
            Check.due("at mate", Check.hall(Texts.START + " f3 e5 g4 Qh4#").bestAt(depth), -1);
            Check.due("at stalemate", Check.hall("7k/8/6Q1/8/8/8/8/K7 b - - 0 1").bestAt(depth), -1);
        }
        Check.due("at depth 0", Check.hall(Texts.MIXED).bestAt(0), -1);
    }

    private static void byModel() {
        for (String text : new String[] {Texts.PINS, Texts.CHECKED, Texts.MIXED, Texts.BECOMING, Texts.EVEN}) {
            GameHall hall = Check.hall(text);
            for (int depth = 1; depth <= (hall.legalMany() <= 30 ? 3 : 2); depth++) {
                Check.due("bestAt " + depth + " of " + text, hall.bestAt(depth), Plain.best(Plain.read(text), depth));
            }
        }
    }

    private static void depths() {
        GameHall start = Check.hall(Texts.START);
        GameHall mixed = Check.hall(Texts.MIXED);
        GameHall three = Check.hall("8/7k/8/8/3Q4/8/K7/8 w - - 0 1");
        Class<IllegalArgumentException> argument = IllegalArgumentException.class;
        Check.dueThrow("bestAt -1", argument, () -> start.bestAt(-1));
        Check.dueThrow("bestAt 4", argument, () -> start.bestAt(4));
        Check.due("bestAt 3", start.bestAt(3) >= 0, true);
        Check.dueThrow("bestAt 3 with 48 moves", argument, () -> mixed.bestAt(3));
        Check.due("bestAt 4 with three men", three.bestAt(4) >= 0, true);
        Check.dueThrow("bestAt 5 with three men", argument, () -> three.bestAt(5));
        Check.dueThrow("bestAt least", argument, () -> three.bestAt(Integer.MIN_VALUE));
        Check.dueThrow("without a game", IllegalStateException.class, () -> new GameHall(0).bestAt(0));
        Check.dueThrow("and no such depth", IllegalStateException.class, () -> new GameHall(0).bestAt(9));
        GameHall mate = Check.hall(Texts.START + " f3 e5 g4 Qh4#");
        Check.dueThrow("bestAt 4 at mate", argument, () -> mate.bestAt(4));
    }
}
