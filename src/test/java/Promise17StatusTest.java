/** The numbers of the object's state. */
public final class Promise17StatusTest {
    public static void main(String[] args) {
        none();
        ofThePosition();
        ofTheTexts();
        ofTheGame();
        Check.end("Promise17StatusTest");
    }

    private static void all(GameHall hall, String when, int... due) {
        for (int which = 0; which < due.length; which++) {
            Check.due(when + ": status " + which, hall.status(which), due[which]);
        }
    }

    private static void none() {
        GameHall hall = new GameHall(7);
        all(hall, "new", 0, 0, -1, 0, -1, -1, -1, -1, -1, -1, 0, 0, 0, 0);
        Check.submit(hall, Texts.START + " e4");
        for (int which : new int[] {-1, 14, 15, 64, Integer.MIN_VALUE, Integer.MAX_VALUE}) {
            Check.due("no such which " + which, hall.status(which), -1);
            Check.due("no such which " + which, new GameHall(1).status(which), -1);
        }
    }

    private static void ofThePosition() {
        all(Check.hall(Texts.START), "start", 0, 0, -1, 1, 0, 0, 15, -1, 0, 1, 32, 1, 1, 1);
        all(Check.hall(Texts.START + " e4 d5 e5 f5 Ke2"), "moves", 0, 0, -1, 6, 0, 1, 12, -1, 1, 3, 32, 6, 1, 1);
        all(Check.hall(Texts.START + " e4 d5 e5 f5"), "PASSANT", 0, 0, -1, 5, 0, 0, 15, 5, 0, 3, 32, 5, 1, 1);
        all(Check.hall("4k3/8/8/8/4P3/8/8/4K2R b K e3 0 77"), "record", 0, 0, -1, 1, 0, 1, 1, 4, 0, 77, 4, 1, 1, 1);
        all(Check.hall("7k/8/8/8/8/8/8/K7 b - - 999 9999"), "dead", 0, 0, -1, 1, 3, 1, 0, -1, 999, 9999, 2, 1, 1, 1);
        all(Check.hall("7k/8/8/8/8/8/8/K6R b - - 999 9999"), "late", 0, 0, -1, 1, 5, 1, 0, -1, 999, 9999, 3, 1, 1, 1);
    }

    private static void ofTheTexts() {
        GameHall hall = new GameHall(3);
        Check.submit(hall, Texts.START + " e4 e5 Ke3");
        all(hall, "refused", 0, 22, 2, 0, -1, -1, -1, -1, -1, -1, 0, 0, 0, 0);
        hall.tape(1, 2, 3, 4, 5);
        Check.outcome(() -> hall.submit(99));
        Check.outcome(() -> hall.proceed(0));
        all(hall, "whatever was called", 20, 22, 2, 0, -1, -1, -1, -1, -1, -1, 0, 0, 0, 0);
        hall.submit(20);
        all(hall, "in the record", 0, 1, -1, 0, -1, -1, -1, -1, -1, -1, 0, 0, 0, 0);
        Check.submit(hall, Texts.START + " e4");
        all(hall, "taken", 0, 0, -1, 2, 0, 1, 15, -1, 0, 1, 32, 2, 1, 1);
        Check.submit(hall, Texts.START + " e4 e5  ");
        all(hall, "refused, the game stays", 0, 21, 2, 2, 0, 1, 15, -1, 0, 1, 32, 2, 1, 1);
        hall.proceed(0);
        hall.retreat();
        hall.retreat();
        all(hall, "taken back", 0, 21, 2, 1, 0, 0, 15, -1, 0, 1, 32, 1, 1, 1);
        Check.submit(hall, Texts.MIXED);
        all(hall, "taken again", 0, 0, -1, 1, 0, 0, 15, -1, 0, 1, 32, 1, 1, 2);
    }

    private static void ofTheGame() {
        GameHall hall = Check.hall(Texts.START + " Nf3 Nf6 Ng1 Ng8".repeat(3) + " Nf3");
        Check.due("positions", hall.status(3), 14);
        Check.due("different", hall.status(11), 4);
        Check.due("greatest", hall.status(12), 4);
        Check.due("verdict", hall.status(4), 6);
        hall.proceed(Check.place(hall, "e5"));
        Check.due("different", hall.status(11), 5);
        Check.due("greatest of the whole game", hall.status(12), 4);
        Check.due("verdict", hall.status(4), 0);
        GameHall taking = Check.hall(Texts.START + " e4 d5 exd5 Qxd5 Nc3 Qxd2+");
        Check.due("men", taking.status(10), 29);
        taking.retreat();
        Check.due("men", taking.status(10), 30);
        GameHall both = Check.hall("4k3/8/8/8/8/8/R7/4K3 w - - 92 1" + " Ra3 Kd8 Ra2 Ke8".repeat(2));
        Check.due("verdict 8", both.status(4), 8);
    }
}
