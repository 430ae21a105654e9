/** What is told of each position of the game. */
public final class Promise16HistoryOfTest {
    public static void main(String[] args) {
        rounds();
        facts();
        passing();
        rightsMakeOthers();
        otherMen();
        taken();
        longGame();
        wrongInputs();
        Check.end("Promise16HistoryOfTest");
    }

    private static void row(GameHall hall, int w, int... due) {
        for (int i = 0; i < due.length; i++) {
            Check.due("historyOf " + i + " " + w, hall.historyOf(i, w), due[i]);
        }
        Check.due("positions", hall.status(3), due.length);
    }

    private static void rounds() {
        GameHall hall = Check.hall(Texts.START + " Nf3 Nf6 Ng1 Ng8".repeat(4));
        row(hall, 0, 1, 1, 1, 1, 2, 2, 2, 2, 3, 3, 3, 3, 4, 4, 4, 4, 5);
        row(hall, 1, 0, 1, 2, 3, 4, 5, 6, 7, 8, 9, 10, 11, 12, 13, 14, 15, 16);
        row(hall, 2, 0, 0, 0, 0, 0, 0, 0, 0, 6, 6, 6, 6, 6, 6, 6, 6, 4);
        row(hall, 6, 0, 1, 2, 3, 0, 1, 2, 3, 0, 1, 2, 3, 0, 1, 2, 3, 0);
        row(hall, 4, 20, 20, 22, 22, 20, 20, 22, 22, 20, 20, 22, 22, 20, 20, 22, 22, 20);
        hall.retreat();
        hall.retreat();
        row(hall, 0, 1, 1, 1, 1, 2, 2, 2, 2, 3, 3, 3, 3, 4, 4, 4);
        hall.proceed(Check.place(hall, "Nc3"));
        row(hall, 0, 1, 1, 1, 1, 2, 2, 2, 2, 3, 3, 3, 3, 4, 4, 4, 1);
        row(hall, 6, 0, 1, 2, 3, 0, 1, 2, 3, 0, 1, 2, 3, 0, 1, 2, 15);
    }

    private static void facts() {
        GameHall hall = Check.hall(Texts.START + " e4 f5 Qh5+ g6 Qxg6+ hxg6");
        row(hall, 1, 0, 0, 0, 1, 0, 0, 0);
        row(hall, 5, 0, 0, 0, 1, 0, 1, 0);
        row(hall, 3, -1, 12 + 64 * 28, 53 + 64 * 37, 3 + 64 * 39, 54 + 64 * 46, 39 + 64 * 46, 55 + 64 * 46);
        Check.due("one answer to the check", hall.historyOf(3, 4), 1);
        Check.due("one answer to the check", hall.historyOf(5, 4), 1);
        Check.due("moves", hall.historyOf(6, 4), hall.legalMany());
        GameHall mate = Check.hall(Texts.START + " f3 e5 g4 Qh4#");
        row(mate, 2, 0, 0, 0, 0, 1);
        row(mate, 5, 0, 0, 0, 0, 1);
        Check.due("no moves", mate.historyOf(4, 4), 0);
        GameHall late = Check.hall("4k3/8/8/8/8/8/R7/4K3 w - - 98 1 Ra3 Ke7 Ra4");
        row(late, 1, 98, 99, 100, 101);
        row(late, 2, 0, 0, 7, 7);
    }

    private static void passing() {
        GameHall hall = Check.hall(Texts.START + " e4 a6 e5 d5 exd6 cxd6");
        row(hall, 7, -1, -1, -1, -1, 3, -1, -1);
        // a PASSANT that only a pinned pawn could use is none here
        GameHall pinned = Check.hall("4k3/4r3/8/3pP3/8/8/8/4K3 w - d6 0 1");
        Check.due("file", pinned.historyOf(0, 7), -1);
        Check.due("PASSANT", pinned.status(7), 3);
        Check.due("a record's", Check.hall("4k3/8/8/3pP3/8/8/8/4K3 w - d6 0 1").historyOf(0, 7), 3);
        Check.due("without a pawn", Check.hall("4k3/8/8/3p4/8/8/8/4K3 w - d6 0 1").historyOf(0, 7), -1);
        // the position with a taking in passing is another one than that without; with a pinned pawn it is not
        String round = " Kd1 Kd8 Ke1 Ke8";
        row(Check.hall("4k3/8/8/3pP3/8/8/8/4K3 w - d6 0 1" + round + round), 0, 1, 1, 1, 1, 1, 2, 2, 2, 2);
        row(Check.hall("4k3/4r3/8/3pP3/8/8/8/4K3 w - d6 0 1 Kf1 Kf8 Ke1 Ke8"), 0, 1, 1, 1, 1, 2);
        row(Check.hall("4k3/4r3/8/3pP3/8/8/8/4K3 w - d6 0 1 Kf1 Kf8 Ke1 Ke8"), 6, 0, 1, 2, 3, 0);
    }

    private static void rightsMakeOthers() {
        String round = " Ra2 Kd8 Ra1 Ke8";
        GameHall hall = Check.hall("4k3/8/8/8/8/8/8/R3K3 w Q - 0 1" + round + round);
        row(hall, 0, 1, 1, 1, 1, 1, 2, 2, 2, 2);
        row(hall, 6, 0, 1, 2, 3, 4, 1, 2, 3, 4);
        // the other side to move makes another position too
        GameHall lost = Check.hall("4k3/8/8/8/8/8/8/R3K3 w - - 0 1 Ra2 Kd8 Ra3 Ke8 Ra1 Kd8 Ra2 Ke8");
        row(lost, 0, 1, 1, 1, 1, 1, 1, 1, 1, 1);
    }

    /** Two men of a side that have changed their squares make another position. */
    private static void otherMen() {
        others("7k/8/8/8/8/8/8/KRQ5 w - - 0 1 Rb3 Kg8 Qb1 Kh8 Rc3 Kg8 Rc1 Kh8");
        others("krq5/8/8/8/8/8/8/7K b - - 0 1 Rb6 Kg1 Qb8 Kh1 Rc6 Kg1 Rc8 Kh1");
        others("7k/8/8/8/8/3N4/8/KB6 w - - 0 1 Nb4 Kg8 Na2 Kh8 Nc3 Kg8 Bc2 Kh8 Bd3 Kg8 Nb1 Kh8");
        others("kb6/8/3n4/8/8/8/8/7K b - - 0 1 Nb5 Kg1 Na7 Kh1 Nc6 Kg1 Bc7 Kh1 Bd6 Kg1 Nb8 Kh1");
    }

    /** All positions of the game are different. */
    private static void others(String text) {
        GameHall hall = Check.hall(text);
        for (int i = 0; i < hall.status(3); i++) {
            Check.due("historyOf " + i + " 6 of " + text, hall.historyOf(i, 6), i);
            Check.due("historyOf " + i + " 0 of " + text, hall.historyOf(i, 0), 1);
        }
    }

    /** A game that is taken after another one has nothing of it. */
    private static void taken() {
        GameHall hall = Check.hall(Texts.START + " Nf3 Nf6 Ng1 Ng8".repeat(2));
        Check.submit(hall, Texts.START + " Nf3");
        row(hall, 0, 1, 1);
        row(hall, 6, 0, 1);
        Check.submit(hall, "x");
        row(hall, 0, 1, 1);
    }

    private static void longGame() {
        String text = LongGame.text(600);
        GameHall hall = Check.hall(text);
        int different = hall.status(11);
        Check.due("positions", hall.status(3), 601);
        Check.dueThrow("historyOf 601", IndexOutOfBoundsException.class, () -> Check.hall(text).historyOf(601, 0));
        int ones = 0;
        for (int i = 0; i <= 600; i++) {
            if (i % 100 == 0) {
                // an object is used for 512 calls at most
                hall = Check.hall(text);
            }
            boolean first = hall.historyOf(i, 6) == i;
            Check.due("COUNT 1 for the first ones", hall.historyOf(i, 0) == 1, first);
            ones += first ? 1 : 0;
        }
        Check.due("different ones", different, ones);
    }

    private static void wrongInputs() {
        Class<IndexOutOfBoundsException> index = IndexOutOfBoundsException.class;
        GameHall hall = Check.hall(Texts.START + " e4");
        Check.dueThrow("historyOf -1 0", index, () -> hall.historyOf(-1, 0));
        Check.dueThrow("historyOf 2 0", index, () -> hall.historyOf(2, 0));
        Check.dueThrow("historyOf 0 -1", index, () -> hall.historyOf(0, -1));
        Check.dueThrow("historyOf 0 8", index, () -> hall.historyOf(0, 8));
        Check.dueThrow("historyOf least", index, () -> hall.historyOf(Integer.MIN_VALUE, 0));
        Check.dueThrow("historyOf most", index, () -> hall.historyOf(Integer.MAX_VALUE, 7));
        Check.dueThrow("historyOf 0 most", index, () -> hall.historyOf(0, Integer.MAX_VALUE));
        hall.retreat();
        Check.dueThrow("historyOf of what was taken back", index, () -> hall.historyOf(1, 0));
        Check.dueThrow("without a game", index, () -> new GameHall(0).historyOf(0, 0));
    }
}
