/** The man on each square. */
public final class Promise10ManOnTest {
    public static void main(String[] args) {
        Check.due("without a game", new GameHall(0).manOn(4), -1);
        int[] first = {4, 2, 3, 5, 6, 3, 2, 4};
        GameHall hall = Check.hall(Texts.START);
        for (int file = 0; file < 8; file++) {
            Check.due("rank 1", hall.manOn(file), first[file]);
            Check.due("rank 2", hall.manOn(8 + file), 1);
            for (int rank = 2; rank < 6; rank++) {
                Check.due("empty", hall.manOn(rank * 8 + file), 0);
            }
            Check.due("rank 7", hall.manOn(48 + file), 7);
            Check.due("rank 8", hall.manOn(56 + file), first[file] + 6);
        }
        for (int square : new int[] {-1, 64, 65, -64, Integer.MIN_VALUE, Integer.MAX_VALUE}) {
            Check.due("no square " + square, hall.manOn(square), -1);
        }
        moves();
        Check.end("Promise10ManOnTest");
    }

    private static void moves() {
        GameHall hall = Check.hall("r3k3/7P/8/3pP3/8/8/8/4K2R w Kq d6 0 1");
        hall.proceed(Check.place(hall, "exd6"));
        Check.due("e5 is left", hall.manOn(36), 0);
        Check.due("d5 is taken", hall.manOn(35), 0);
        Check.due("d6", hall.manOn(43), 1);
        hall.proceed(Check.place(hall, "0-0-0"));
        Check.due("a8", hall.manOn(56), 0);
        Check.due("c8", hall.manOn(58), 12);
        Check.due("d8", hall.manOn(59), 10);
        Check.due("e8", hall.manOn(60), 0);
        hall.proceed(Check.place(hall, "h8Q"));
        Check.due("h8", hall.manOn(63), 5);
        Check.due("h7", hall.manOn(55), 0);
        hall.retreat();
        hall.retreat();
        hall.retreat();
        Check.due("d5 is back", hall.manOn(35), 7);
        Check.due("a8 is back", hall.manOn(56), 10);
        Check.due("h7 is back", hall.manOn(55), 1);
    }
}
