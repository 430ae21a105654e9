/** The LIST's moves as numbers, by from, then to, then what is become. */
public final class Promise07LegalMoveTest {
    public static void main(String[] args) {
        start();
        becoming();
        castling();
        passing();
        order(Texts.MIXED);
        order(Texts.BECOMING);
        order(Texts.CROWD);
        order(Texts.CHECKED);
        wrongInputs();
        Check.end("Promise07LegalMoveTest");
    }

    private static void list(String text, int... due) {
        GameHall hall = Check.hall(text);
        Check.due("legalMany of " + text, hall.legalMany(), due.length);
        for (int k = 0; k < due.length && k < hall.legalMany(); k++) {
            Check.due("legalMove " + k + " of " + text, hall.legalMove(k), due[k]);
        }
    }

    private static int move(String from, String to, int become) {
        return square(from) + 64 * square(to) + 4096 * become;
    }

    private static int move(String from, String to) {
        return move(from, to, 0);
    }

    private static int square(String name) {
        return name.charAt(0) - 'a' + 8 * (name.charAt(1) - '1');
    }

    private static void start() {
        int[] due = new int[20];
        int at = 0;
        for (String pair : "b1a3 b1c3 g1f3 g1h3".split(" ")) {
            due[at++] = move(pair.substring(0, 2), pair.substring(2));
        }
        for (char file = 'a'; file <= 'h'; file++) {
            due[at++] = move(file + "2", file + "3");
            due[at++] = move(file + "2", file + "4");
        }
        list(Texts.START, due);
        Check.due("a number of the document's kind", due[0], 1 + 64 * 16);
    }

    private static void becoming() {
        list("1r5k/P7/8/8/8/8/8/K7 w - - 0 1", move("a1", "a2"), move("a7", "a8", 2), move("a7", "a8", 3),
                move("a7", "a8", 4), move("a7", "a8", 5), move("a7", "b8", 2), move("a7", "b8", 3),
                move("a7", "b8", 4), move("a7", "b8", 5));
        list("k6K/8/8/8/8/8/7p/6B1 b - - 0 1", move("h2", "g1", 2), move("h2", "g1", 3),
                move("h2", "g1", 4), move("h2", "g1", 5), move("h2", "h1", 2), move("h2", "h1", 3),
                move("h2", "h1", 4), move("h2", "h1", 5), move("a8", "b7"), move("a8", "b8"));
    }

    private static void castling() {
        list("4k3/8/8/8/8/p6p/P6P/R3K2R w KQ - 0 1", move("a1", "b1"), move("a1", "c1"), move("a1", "d1"),
                move("e1", "c1"), move("e1", "d1"), move("e1", "f1"), move("e1", "g1"), move("e1", "d2"),
                move("e1", "e2"), move("e1", "f2"), move("h1", "f1"), move("h1", "g1"));
        list("r3k2r/p6p/P6P/8/8/8/8/4K3 b kq - 0 1", move("a8", "b8"), move("a8", "c8"), move("a8", "d8"),
                move("e8", "d7"), move("e8", "e7"), move("e8", "f7"), move("e8", "c8"), move("e8", "d8"),
                move("e8", "f8"), move("e8", "g8"), move("h8", "f8"), move("h8", "g8"));
    }

    private static void passing() {
        list("7k/8/8/2PpP3/8/1r6/r7/7K w - d6 0 1", move("h1", "g1"), move("c5", "c6"), move("c5", "d6"),
                move("e5", "d6"), move("e5", "e6"));
    }

    private static void order(String text) {
        GameHall hall = Check.hall(text);
        int many = hall.legalMany();
        int before = -1;
        for (int k = 0; k < many; k++) {
            int key = key(hall.legalMove(k));
            Check.due("order at " + k + " of " + text, before < key, true);
            before = key;
        }
    }

    private static int key(int move) {
        return move % 64 * 4096 + move / 64 % 64 * 64 + move / 4096;
    }

    private static void wrongInputs() {
        GameHall hall = Check.hall(Texts.START);
        Class<IndexOutOfBoundsException> index = IndexOutOfBoundsException.class;
        Check.dueThrow("legalMove -1", index, () -> hall.legalMove(-1));
        Check.dueThrow("legalMove 20", index, () -> hall.legalMove(20));
        Check.dueThrow("legalMove least", index, () -> hall.legalMove(Integer.MIN_VALUE));
        Check.dueThrow("legalMove most", index, () -> hall.legalMove(Integer.MAX_VALUE));
        GameHall mate = Check.hall(Texts.START + " f3 e5 g4 Qh4#");
        Check.dueThrow("legalMove at mate", index, () -> mate.legalMove(0));
        // what a longer LIST has left behind is not there
        Check.submit(hall, Texts.CROWD);
        Check.submit(hall, Texts.CROWD);
        Check.submit(hall, "7k/8/8/8/8/8/8/K7 w - - 0 1");
        Check.dueThrow("legalMove 3", index, () -> hall.legalMove(3));
    }
}
