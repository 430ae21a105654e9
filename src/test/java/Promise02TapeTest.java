/** The tape: twenty bytes a call, the highest of a number first, until it has 8180. */
public final class Promise02TapeTest {
    public static void main(String[] args) {
        bytesInOrder();
        fullTape();
        allBytes();
        Check.end("Promise02TapeTest");
    }

    private static void bytesInOrder() {
        GameHall hall = new GameHall(1);
        // "8/8/8/8/8/8/k1K5/8 w - - 0 1" by its bytes, so that no helper hides the order
        Check.due("tape", hall.tape(0x382F382F, 0x382F382F, 0x382F382F, 0x6B314B35, 0x2F382077), true);
        Check.due("bytes", hall.status(0), 20);
        Check.due("tape", hall.tape(0x202D202D, 0x20302031, 0, -1, 0x80808080), true);
        Check.due("bytes", hall.status(0), 40);
        Check.due("submit", hall.submit(8), 0);
        Check.due("bytes", hall.status(0), 0);
        Check.due("record", Check.record(hall), "8/8/8/8/8/8/k1K5/8 w - - 0 1");
    }

    private static void fullTape() {
        GameHall hall = new GameHall(1);
        for (int k = 0; k < 409; k++) {
            Check.due("tape " + k, hall.tape(0x20202020, 1, 2, 3, 4), true);
            if (k % 10 == 8) {
                Check.due("bytes " + k, hall.status(0), 20 * (k + 1));
            }
        }
        Check.due("tape beyond", hall.tape(1, 2, 3, 4, 5), false);
        Check.due("tape beyond again", hall.tape(1, 2, 3, 4, 5), false);
        Check.due("bytes stay", hall.status(0), 8180);
        Check.due("submit", hall.submit(20), -1);
        Check.due("tape once it is empty", hall.tape(1, 2, 3, 4, 5), true);
        Check.due("bytes", hall.status(0), 20);
    }

    /** A full tape, with all but the last byte of blanks behind the record: they are read as moves that are nothing. */
    private static void allBytes() {
        GameHall hall = new GameHall(1);
        StringBuilder text = new StringBuilder(Texts.START);
        while (text.length() < 8179) {
            text.append(' ');
        }
        text.append('e');
        for (int at = 0; at < 8180; at += 20) {
            int[] n = Check.numbers(text.toString(), at);
            hall.tape(n[0], n[1], n[2], n[3], n[4]);
        }
        Check.due("many blanks", hall.submit(20), -1);
        Check.due("fault", hall.status(1), 21);
        Check.due("at the first of them", hall.status(2), 0);
    }
}
