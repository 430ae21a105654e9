/** A new object: no game, no text, whatever slots says. */
public final class Promise01NewObjectTest {
    private static final int[] NEW_STATUS = {0, 0, -1, 0, -1, -1, -1, -1, -1, -1, 0, 0, 0, 0};
    private static final int[] SLOTS = {Integer.MIN_VALUE, -1, 0, 1, 6, 12, 13, Integer.MAX_VALUE};

    public static void main(String[] args) {
        for (int slots : SLOTS) {
            isEmpty(new GameHall(slots), "new GameHall(" + slots + ")");
            slotsChangeNothing(slots);
        }
        Check.due("NONE", GameHall.NONE, -1);
        Check.end("Promise01NewObjectTest");
    }

    private static void isEmpty(GameHall hall, String name) {
        for (int which = 0; which < NEW_STATUS.length; which++) {
            Check.due(name + " status " + which, hall.status(which), NEW_STATUS[which]);
        }
        Check.due(name + " legalMany", hall.legalMany(), 0);
        Check.due(name + " recordAt", hall.recordAt(0), 0);
        Check.due(name + " manOn", hall.manOn(0), -1);
        Check.due(name + " retreat", hall.retreat(), false);
        Class<IllegalStateException> state = IllegalStateException.class;
        Class<IndexOutOfBoundsException> index = IndexOutOfBoundsException.class;
        Check.dueThrow(name + " proceed", state, () -> hall.proceed(0));
        Check.dueThrow(name + " proceed, no such place either", state, () -> hall.proceed(-1));
        Check.dueThrow(name + " legalMove", index, () -> hall.legalMove(0));
        Check.dueThrow(name + " spelling", index, () -> hall.spelling(0));
        Check.dueThrow(name + " linesTo", state, () -> hall.linesTo(0));
        Check.dueThrow(name + " linesTo, no such depth either", state, () -> hall.linesTo(-1));
        Check.dueThrow(name + " valueAt", state, () -> hall.valueAt(0));
        Check.dueThrow(name + " valueAt, no such depth either", state, () -> hall.valueAt(5));
        Check.dueThrow(name + " bestAt", state, () -> hall.bestAt(1));
        Check.dueThrow(name + " bestAt, no such depth either", state, () -> hall.bestAt(-1));
        Check.dueThrow(name + " distanceToMate", state, () -> hall.distanceToMate());
        Check.dueThrow(name + " matingMove", state, () -> hall.matingMove());
        Check.dueThrow(name + " historyOf", index, () -> hall.historyOf(0, 0));
    }

    private static void slotsChangeNothing(int slots) {
        GameHall hall = new GameHall(slots);
        Check.due("submit with slots " + slots, Check.submit(hall, Texts.START + " e4 e5 Nf3 Nc6"), 4);
        Check.due("record with slots " + slots, Check.record(hall),
                "r1bqkbnr/pppp1ppp/2n5/4p3/4P3/5N2/PPPP1PPP/RNBQKB1R w KQkq - 2 3");
        Check.due("lines with slots " + slots, hall.linesTo(2), 27 * 29 + lines(hall));
    }

    /** What the lines of two half moves have more than 27 times 29, counted by going there. */
    private static long lines(GameHall hall) {
        long sum = 0;
        int many = hall.legalMany();
        for (int k = 0; k < many; k++) {
            hall.proceed(k);
            sum += hall.legalMany();
            hall.retreat();
        }
        return sum - 27 * 29;
    }
}
