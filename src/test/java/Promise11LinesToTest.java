/** How many lines of legal moves there are; the numbers are widely known ones. */
public final class Promise11LinesToTest {
    public static void main(String[] args) {
        lines(Texts.START, 1, 20, 400, 8902);
        lines(Texts.MIXED, 1, 48, 2039);
        lines(Texts.PINS, 1, 14, 191, 2812);
        lines(Texts.CHECKED, 1, 6, 264, 9467);
        lines(Texts.BECOMING, 1, 44, 1486);
        lines(Texts.EVEN, 1, 46, 2079);
        lines(Texts.CROWD, 1, 218, 99);
        lines("8/PPP4k/8/8/8/8/4Kppp/8 w - - 0 1", 1, 18, 290, 5044);
        lines("n1n5/PPPk4/8/8/8/8/4Kppp/5N1N b - - 0 1", 1, 24, 496, 9483);
        lines(Texts.START + " f3 e5 g4 Qh4#", 1, 0, 0, 0);
        lines("7k/8/6Q1/8/8/8/8/K7 b - - 0 1", 1, 0, 0, 0);
        // a game that has ended goes on here
        lines("7k/8/8/8/8/8/8/K7 w - - 150 1", 1, 3, 9, 54);
        // deeper when there are at most 30 moves
        depths(Texts.START, 3);
        depths(Texts.MIXED, 2);
        depths("4k3/8/8/8/8/8/8/R3K2R w KQ - 0 1", 3);
        depths("4k3/8/8/8/8/8/8/Q2K4 w - - 0 1", 3);
        depths("7k/8/8/8/3Q4/8/8/K7 b - - 0 1", 3);
        thirty();
        Check.dueThrow("without a game", IllegalStateException.class, () -> new GameHall(0).linesTo(1));
        Check.dueThrow("and no such depth", IllegalStateException.class, () -> new GameHall(0).linesTo(9));
        Check.end("Promise11LinesToTest");
    }

    private static void lines(String text, long... due) {
        GameHall hall = Check.hall(text);
        String record = Check.record(hall);
        for (int depth = 0; depth < due.length; depth++) {
            Check.due("linesTo " + depth + " of " + text, hall.linesTo(depth), due[depth]);
        }
        Check.due("nothing changed", Check.record(hall), record);
    }

    private static void depths(String text, int most) {
        GameHall hall = Check.hall(text);
        for (int depth : new int[] {-1, 3, 4, 5, Integer.MIN_VALUE, Integer.MAX_VALUE}) {
            if (depth < 0 || depth > most) {
                Check.dueThrow("linesTo " + depth + " of " + text, IllegalArgumentException.class,
                        () -> hall.linesTo(depth));
            } else {
                Check.due("linesTo " + depth + " of " + text, hall.linesTo(depth) > 0, true);
            }
        }
    }

    /** 30 moves are few enough, 31 are not. */
    private static void thirty() {
        GameHall thirty = Check.hall("8/7k/8/8/3Q4/7P/8/K7 w - - 0 1");
        Check.due("moves", thirty.legalMany(), 30);
        Check.due("linesTo 3", thirty.linesTo(3) > 0, true);
        GameHall more = Check.hall("8/7k/8/8/3Q4/8/7P/K7 w - - 0 1");
        Check.due("moves", more.legalMany(), 31);
        Check.dueThrow("linesTo 3", IllegalArgumentException.class, () -> more.linesTo(3));
    }
}
