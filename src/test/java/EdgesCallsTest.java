import java.util.function.ToLongFunction;

/** The edges of the calls: their arguments, the tape, what is refused, and what a refused call leaves as it was. */
public final class EdgesCallsTest {
    private static final Class<IllegalStateException> STATE = IllegalStateException.class;
    private static final Class<IllegalArgumentException> ARGUMENT = IllegalArgumentException.class;
    private static final Class<IndexOutOfBoundsException> INDEX = IndexOutOfBoundsException.class;
    private static final int[] FAR = {Integer.MIN_VALUE, Integer.MIN_VALUE + 1, -65536, -257, -256, -64, -2, -1};
    private static final String PREFIX = "k6K/8/8/8/8/8/P7/8 w - - 0 1 a4 Kb7 a5 Ka7 Kg7 Ka6 Kf6 Kxa5";

    public static void main(String[] args) {
        newObject();
        slots();
        highestFirst();
        fullTape();
        textOfTheTape();
        emptyTape();
        tapeIsEmptyThen();
        wrongNumber();
        gameStays();
        newGame();
        proceeds();
        retreats();
        longGames();
        places();
        recordParts();
        squares();
        rowsAndFacts();
        whichStatus();
        latestText();
        refusedChangesNothing();
        askingChangesNothing();
        firstListed();
        fiveHundredAndTwelve();
        Check.end("EdgesCallsTest");
    }

    /** Puts a text on the tape without reading it. */
    private static void tape(GameHall hall, String text) {
        for (int at = 0; at < text.length(); at += 20) {
            int[] n = Check.numbers(text, at);
            Check.due("tape", hall.tape(n[0], n[1], n[2], n[3], n[4]), true);
        }
    }

    /** "No game, no text." */
    private static void newObject() {
        Check.due("a new object", Check.state(new GameHall(0)), "0 0 -1 0 -1 -1 -1 -1 -1 -1 0 0 0 0  |");
    }

    /** "slots, 0 .. 12 (others count as the nearest of these), changes nothing of what is told." */
    private static void slots() {
        String text = Texts.START + " e4 d5 e5 f5";
        GameHall first = new GameHall(0);
        Check.submit(first, text);
        String due = Check.state(first);
        for (int slots : new int[] {Integer.MIN_VALUE, -1000, -1, 0, 1, 2, 6, 11, 12, 13, 14, 100, Integer.MAX_VALUE}) {
            GameHall hall = new GameHall(slots);
            Check.due("new with " + slots, Check.state(hall), Check.state(new GameHall(0)));
            Check.due("submit with " + slots, Check.submit(hall, text), 4);
            Check.due("state with " + slots, Check.state(hall), due);
            Check.due("value with " + slots, hall.valueAt(2), first.valueAt(2));
            Check.due("lines with " + slots, hall.linesTo(2), first.linesTo(2));
            Check.submit(hall, "8/8/8/8/3k4/8/8/KR6 w - - 0 1");
            Check.due("distance with " + slots, hall.distanceToMate() > 0, true);
        }
    }

    /** "Twenty bytes, of each number the highest first, come to the TAPE: true". */
    private static void highestFirst() {
        GameHall hall = new GameHall(0);
        // k6K/8/8/8/8/8/P7/8 w - - 0 1, with bytes behind it whose highest bit is set
        Check.due("tape", hall.tape(0x6B364B2F, 0x382F382F, 0x382F382F, 0x382F5037, 0x2F382077), true);
        Check.due("tape", hall.tape(0x202D202D, 0x20302031, 0x80FF80FF, -1, 0x81828384), true);
        Check.due("bytes", hall.status(0), 40);
        Check.due("submit", hall.submit(8), 0);
        Check.due("record", Check.record(hall), "k6K/8/8/8/8/8/P7/8 w - - 0 1");
        // a byte above 127 is read as it is, and is no sign of a text
        hall.tape(0x6B364B2F, 0x382F382F, 0x382F382F, 0x382F5037, 0x2F382077);
        hall.tape(0x202D202D, 0x203020B1, 0, 0, 0);
        Check.due("submit", hall.submit(8), -1);
        Check.due("fault", hall.status(1), 6);
    }

    /** "false if it has 8180 or more": 409 calls fill it; what is refused does not come. */
    private static void fullTape() {
        GameHall hall = new GameHall(0);
        tape(hall, PREFIX + " ".repeat(8160 - PREFIX.length()));
        Check.due("bytes", hall.status(0), 8160);
        Check.due("the last that fits", hall.tape(1, 2, 3, 4, 5), true);
        Check.due("bytes", hall.status(0), 8180);
        for (int k = 0; k < 3; k++) {
            Check.due("one more", hall.tape(0x78787878, 0x78787878, 0x78787878, 0x78787878, 0x78787878), false);
            Check.due("bytes stay", hall.status(0), 8180);
        }
        Check.dueThrow("submit 0", ARGUMENT, () -> hall.submit(0));
        Check.due("bytes stay", hall.status(0), 8180);
        // had a refused byte come to the beginning there would be another fault
        Check.due("submit", hall.submit(20), -1);
        Check.due("fault", hall.status(1), 20);
        Check.due("behind the moves", hall.status(2), 8);
        Check.due("empty", hall.status(0), 0);
        Check.due("tape again", hall.tape(1, 2, 3, 4, 5), true);
        Check.due("bytes", hall.status(0), 20);
    }

    /** "The TAPE, but for its last 20 - n bytes (n 1 .. 20 ...), is a TEXT": of one, two and three calls. */
    private static void textOfTheTape() {
        int[] faults = new int[61];
        int[] places = new int[61];
        for (int length = 1; length <= 60; length++) {
            faults[length] = length < 19 ? 1 : length < 21 ? 2 : length < 23 ? 3 : length < 25 ? 4 : length < 27 ? 5
                    : length == 27 ? 6 : 21;
            places[length] = length < 28 ? -1 : length < 31 ? 0 : length < 35 ? 1 : length < 38 ? 2 : length < 42 ? 3
                    : length < 46 ? 4 : length < 50 ? 5 : length < 54 ? 6 : 7;
        }
        int[] whole = {28, 31, 35, 38, 42, 46, 50, 54, 59};
        for (int moves = 0; moves < whole.length; moves++) {
            faults[whole[moves]] = 0;
        }
        faults[60] = 20;
        places[60] = 8;
        String text = PREFIX + " Kf5";
        for (int length = 1; length <= 60; length++) {
            GameHall hall = new GameHall(0);
            int calls = (length + 19) / 20;
            tape(hall, text.substring(0, 20 * calls));
            int got = hall.submit(length - 20 * (calls - 1));
            Check.due("fault of " + length + " bytes", hall.status(1), faults[length]);
            Check.due("place of " + length + " bytes", hall.status(2), faults[length] == 0 ? -1 : places[length]);
            int moves = text.substring(0, length).split(" ").length - 6;
            Check.due("submit of " + length + " bytes", got, faults[length] == 0 ? moves : -1);
        }
    }

    /** "of an empty TAPE the TEXT is empty": a text all the same, whose first field is not as said. */
    private static void emptyTape() {
        for (int n = 1; n <= 20; n++) {
            GameHall hall = new GameHall(0);
            Check.due("submit " + n + " of an empty tape", hall.submit(n), -1);
            Check.due("fault", hall.status(1), 1);
            Check.due("place", hall.status(2), -1);
            Check.due("bytes", hall.status(0), 0);
        }
    }

    /** "the TAPE is empty then": whether the text was taken or refused. */
    private static void tapeIsEmptyThen() {
        // of the last one twenty bytes alone would have fault 3
        String small = "k6K/8/8/8/8/8/8/8 w - - 0 1";
        for (String text : new String[] {Texts.START, Texts.START + " e5", "x", " ", small}) {
            GameHall hall = new GameHall(0);
            for (int n = 1; n <= 20; n++) {
                Check.submit(hall, text);
                Check.due("bytes after " + text, hall.status(0), 0);
                Check.due("the next text is empty", hall.submit(n), -1);
                Check.due("fault", hall.status(1), 1);
            }
            // nothing of the text before is left
            Check.due("another text", Check.submit(hall, "k6K/8/8/8/8/8/P7/8 w - - 0 1"), 0);
            Check.due("record", Check.record(hall), "k6K/8/8/8/8/8/P7/8 w - - 0 1");
        }
    }

    /** "IllegalArgumentException if n is not 1 .. 20, whatever the TAPE has (it stays)." */
    private static void wrongNumber() {
        int[] wrong = {Integer.MIN_VALUE, -20, -1, 0, 21, 22, 40, 256, 257, 65537, Integer.MAX_VALUE};
        for (String text : new String[] {"", "x".repeat(20), Texts.START + "    ", "x".repeat(8180)}) {
            GameHall hall = new GameHall(0);
            tape(hall, text);
            int bytes = hall.status(0);
            for (int n : wrong) {
                Check.dueThrow("submit " + n, ARGUMENT, () -> hall.submit(n));
                Check.due("the tape stays", hall.status(0), bytes);
                Check.due("no text was read", hall.status(1), 0);
            }
        }
        GameHall hall = new GameHall(0);
        tape(hall, Texts.START);
        Check.dueThrow("submit 21", ARGUMENT, () -> hall.submit(21));
        Check.dueThrow("submit 0", ARGUMENT, () -> hall.submit(0));
        Check.due("what it had is read", hall.submit(16), 0);
        Check.due("record", Check.record(hall), Texts.START);
    }

    /** "NONE if it is refused: the game stays." */
    private static void gameStays() {
        String[] refused = {"", "x", "4k3/8/8/8/8/8/8/4K3 w - - 0", "8/8/8/8/8/8/8/8 w - - 0 1",
            "4k2P/8/8/8/8/8/8/4K3 w - - 0 1", "4k3/8/8/8/8/8/8/4K3 w K - 0 1", "4k3/8/8/8/8/8/8/4K3 w - e6 0 1",
            "4k3/8/8/8/4R3/8/8/4K3 w - - 0 1", Texts.MIXED + " 0-0 ??", Texts.MIXED + " 0-0 Ka5",
            Texts.MIXED + " 0-0 Kxd8", Texts.MIXED + " 0-0 0-0+", "4k3/8/8/8/8/8/8/4K3 w - - 0 1 Ke2"};
        int[] faults = {1, 1, 5, 7, 8, 9, 10, 11, 21, 22, 23, 24, 20};
        for (int k = 0; k < refused.length; k++) {
            GameHall hall = Check.hall(Texts.START + " e4 d5 e5 f5");
            String before = Check.state(hall);
            Check.due("submit of " + refused[k], Check.submit(hall, refused[k]), -1);
            Check.due("fault of " + refused[k], hall.status(1), faults[k]);
            // but for the fault and its place all is as before
            int place = hall.status(2);
            Check.due("the game after " + refused[k], Check.state(hall),
                    before.replaceFirst("0 0 -1", "0 " + faults[k] + " " + place));
            Check.due("it goes on", hall.proceed(Check.place(hall, "exf6")), 0);
        }
    }

    /** "If it is right there is a new game, and it stands behind all its moves: how many." */
    private static void newGame() {
        GameHall hall = Check.hall(Texts.START + " e4 d5 e5 f5");
        Check.due("a shorter one", Check.submit(hall, Texts.MIXED), 0);
        Check.due("as if it were the first one but for the texts that were taken",
                Check.state(hall).replaceFirst("1 1 2 ", "1 1 1 "), Check.state(Check.hall(Texts.MIXED)));
        Check.due("nothing to take back", hall.retreat(), false);
        Check.due("a longer one", Check.submit(hall, Texts.START + " e4 e5"), 2);
        Check.due("positions", hall.status(3), 3);
        Check.due("taken", hall.status(13), 3);
        Check.due("its moves can be taken back", hall.retreat() && hall.retreat(), true);
        Check.due("and no more", hall.retreat(), false);
        // what is worked out of the men is that of the new ones
        for (String text : new String[] {Texts.START, "7k/8/8/8/8/8/8/KQ6 w - - 0 1", "x", "7k/8/8/8/8/8/8/KR6 b - - 0 1",
            "kr6/8/8/8/8/8/8/7K w - - 0 1", "4k3/8/8/8/8/8/8/4K2R w K - 0 1", "4k3/8/8/3pP3/8/8/8/4K3 w - d6 0 1"}) {
            if (Check.submit(hall, text) == 0) {
                GameHall first = Check.hall(text);
                Check.due("VALUE of " + text, hall.valueAt(0), first.valueAt(0));
                Check.due("VALUE of " + text, hall.valueAt(2), first.valueAt(2));
                Check.due("DISTANCE of " + text, hall.distanceToMate(), first.distanceToMate());
                Check.due("rights of " + text, hall.status(6), first.status(6));
                Check.due("PASSANT of " + text, hall.status(7), first.status(7));
                Check.due("men of " + text, hall.status(10), first.status(10));
            }
        }
        // a game that has ended is followed by one that has not
        Check.submit(hall, "4k3/8/8/8/8/8/8/4K3 w - - 0 1");
        Check.dueThrow("ended", STATE, () -> hall.proceed(0));
        Check.submit(hall, Texts.START);
        Check.due("goes on", hall.proceed(0), 0);
    }

    /** "IllegalStateException if there is no game, it has ended, or 600 moves stand in it (...); IndexOutOfBounds..." */
    private static void proceeds() {
        Check.dueThrow("no game", STATE, () -> new GameHall(0).proceed(0));
        GameHall hall = Check.hall(Texts.START);
        for (int i : FAR) {
            Check.dueThrow("proceed " + i, INDEX, () -> hall.proceed(i));
        }
        for (int i : new int[] {20, 21, 256, 384, 65536, Integer.MAX_VALUE}) {
            Check.dueThrow("proceed " + i, INDEX, () -> hall.proceed(i));
        }
        Check.due("the last one", hall.proceed(19), 0);
        Check.due("h4", hall.manOn(31), 1);
        hall.retreat();
        Check.due("the first one", hall.proceed(0), 0);
        Check.due("Na3", hall.manOn(16), 2);
        String[] ended = {"1R5k/R7/8/8/8/8/8/7K b - - 0 1", "7k/8/6Q1/8/8/8/8/K7 b - - 0 1",
            "4k3/8/8/8/8/8/8/4K2B w - - 0 1", Texts.START + " Nf3 Nf6 Ng1 Ng8".repeat(4),
            "6k1/8/8/8/8/8/8/K6R w - - 150 1"};
        for (int verdict = 1; verdict <= 5; verdict++) {
            GameHall over = Check.hall(ended[verdict - 1]);
            Check.due("verdict", over.status(4), verdict);
            Check.dueThrow("verdict " + verdict, STATE, () -> over.proceed(0));
            Check.dueThrow("verdict " + verdict, STATE, () -> over.proceed(-1));
        }
        String[] goes = {Texts.START + " Nf3 Nf6 Ng1 Ng8".repeat(2), "6k1/8/8/8/8/8/8/K6R w - - 100 1",
            "6k1/8/8/8/8/8/8/K6R w - - 100 1" + " Rh2 Kf8 Rh1 Kg8".repeat(2)};
        for (int k = 0; k < 3; k++) {
            GameHall on = Check.hall(goes[k]);
            Check.due("verdict", on.status(4), 6 + k);
            Check.due("it goes on", on.proceed(0) >= 0, true);
        }
        sixHundred();
    }

    /** "... or 600 moves stand in it (those taken back do not count)". */
    private static void sixHundred() {
        GameHall hall = Check.hall(LongGame.text(598));
        for (int k = 0; k < 30; k++) {
            Check.due("proceed", hall.proceed(0) >= 0, true);
            Check.due("retreat", hall.retreat(), true);
        }
        Check.due("the 599th", hall.proceed(0) >= 0, true);
        Check.due("the 600th", hall.proceed(0) >= 0, true);
        Check.due("positions", hall.status(3), 601);
        Check.dueThrow("the 601st", STATE, () -> hall.proceed(0));
        Check.due("positions stay", hall.status(3), 601);
        Check.due("the last row", hall.historyOf(600, 0) > 0, true);
        Check.dueThrow("no row behind it", INDEX, () -> hall.historyOf(601, 0));
        Check.due("one can look ahead there", hall.linesTo(2) > 0 && hall.bestAt(2) >= 0, true);
        Check.due("retreat", hall.retreat(), true);
        Check.due("the 600th again", hall.proceed(0) >= 0, true);
        Check.dueThrow("the 601st again", STATE, () -> hall.proceed(0));
    }

    /** "The latest move of the game is taken back (also when the game has ended ...); false if there is none". */
    private static void retreats() {
        Check.due("no game", new GameHall(0).retreat(), false);
        GameHall refused = new GameHall(0);
        Check.submit(refused, Texts.START + " e4 e4");
        Check.due("a refused text is no game", refused.retreat(), false);
        GameHall none = Check.hall(Texts.START);
        Check.due("no move", none.retreat(), false);
        Check.due("nothing changed", Check.record(none), Texts.START);
        String[] ends = {"7k/R7/8/8/8/8/8/1R5K w - - 0 1 Rb8#", "7k/8/8/6Q1/8/8/8/K7 w - - 0 1 Qg6",
            "7k/8/8/8/8/8/1p6/K7 w - - 0 1 Kxb2", Texts.START + " Nf3 Nf6 Ng1 Ng8".repeat(4),
            "6k1/8/8/8/8/8/8/K6R w - - 149 1 Rh2"};
        for (int verdict = 1; verdict <= 5; verdict++) {
            String text = ends[verdict - 1];
            GameHall hall = Check.hall(text);
            Check.due("verdict", hall.status(4), verdict);
            Check.due("retreat", hall.retreat(), true);
            String before = text.substring(0, text.lastIndexOf(' '));
            Check.due("as before the move", Check.state(hall), Check.state(Check.hall(before)));
            Check.due("the same move again", hall.proceed(Check.place(hall, text.substring(before.length() + 1))), verdict);
        }
    }

    /** Of 600 moves 300 are taken back; and a text of 600 moves follows one that was refused behind as many. */
    private static void longGames() {
        String text = LongGame.text(600);
        GameHall hall = Check.hall(text);
        for (int k = 0; k < 300; k++) {
            Check.due("retreat", hall.retreat(), true);
        }
        GameHall half = Check.hall(LongGame.text(300));
        Check.due("as behind 300 moves", Check.record(hall), Check.record(half));
        Check.due("LIST", Check.spellings(hall), Check.spellings(half));
        for (int which = 3; which < 13; which++) {
            Check.due("status " + which, hall.status(which), half.status(which));
        }
        GameHall twice = new GameHall(0);
        Check.due("refused", Check.submit(twice, text + " e4"), -1);
        Check.due("the same again", Check.submit(twice, text + " e4"), -1);
        Check.due("fault", twice.status(1) + " " + twice.status(2), "20 600");
        Check.due("taken", Check.submit(twice, text), 600);
        Check.due("retreat", twice.retreat() && twice.proceed(0) >= 0, true);
    }

    /** legalMany: "0 without a game"; legalMove and spelling: "IndexOutOfBoundsException if there is none such." */
    private static void places() {
        GameHall none = new GameHall(0);
        Check.due("legalMany without a game", none.legalMany(), 0);
        for (String text : new String[] {Texts.START, Texts.CROWD, "1R5k/R7/8/8/8/8/8/7K b - - 0 1",
            "7k/8/8/8/8/8/8/K7 w - - 0 1", "4r2k/8/8/8/8/8/8/4KR2 w - - 0 1"}) {
            GameHall hall = Check.hall(text);
            int many = hall.legalMany();
            for (int i : new int[] {many, many + 1, 384, 1 << 20, Integer.MAX_VALUE}) {
                Check.dueThrow("legalMove " + i, INDEX, () -> hall.legalMove(i));
                Check.dueThrow("spelling " + i, INDEX, () -> hall.spelling(i));
            }
            for (int i : FAR) {
                Check.dueThrow("legalMove " + i, INDEX, () -> hall.legalMove(i));
                Check.dueThrow("spelling " + i, INDEX, () -> hall.spelling(i));
                Check.dueThrow("legalMove " + i + " without a game", INDEX, () -> none.legalMove(i));
                Check.dueThrow("spelling " + i + " without a game", INDEX, () -> none.spelling(i));
            }
            if (many > 0) {
                Check.due("the last place", hall.legalMove(many - 1) >= 0 && hall.spelling(many - 1) != 0, true);
                Check.due("the first place", hall.legalMove(0) >= 0 && hall.spelling(0) != 0, true);
            }
        }
        Check.dueThrow("legalMove 0 without a game", INDEX, () -> none.legalMove(0));
        Check.dueThrow("spelling 0 without a game", INDEX, () -> none.spelling(0));
    }

    /** "0 where there are none (so for k below 0), or without a game. (Its CLOCK and NUMBER can be more ...)" */
    private static void recordParts() {
        Check.due("without a game", new GameHall(0).recordAt(0), 0);
        Check.due("without a game", new GameHall(0).recordAt(-1), 0);
        // 27, 56 and 64 characters, and what is longest
        for (String text : new String[] {"k6K/8/8/8/8/8/8/8 w - - 0 1", Texts.START,
            "r1b1k2r/p1p1p1p1/1p1p1p2/8/8/1P1P1P2/P1P1P1P1/R3K2R b KQkq - 10 1000",
            "r1b1k2r/p1p1p1p1/1p1p4/n1n1n1n1/N1N1N1N1/1P1P4/P1P1P1P1/R1B1K2R w KQkq - 999 9999"}) {
            GameHall hall = new GameHall(0);
            Check.due("submit of " + text, Check.submit(hall, text), 0);
            for (int k = 0; k < 16; k++) {
                String part = 8 * k >= text.length() ? "" : text.substring(8 * k, Math.min(text.length(), 8 * k + 8));
                Check.due("recordAt " + k + " of " + text, hall.recordAt(k), Plain.pack(part));
            }
            for (int k : FAR) {
                Check.due("recordAt " + k, hall.recordAt(k), 0);
            }
            // 8 * k runs over: it is no small number then
            for (int k : new int[] {1 << 28, 1 << 29, (1 << 29) + 1, 1 << 30, (1 << 30) + 1, 3 << 29, Integer.MAX_VALUE,
                -(1 << 29), -(1 << 29) + 1, -(1 << 30), 1 - (1 << 30)}) {
                Check.due("recordAt " + k, hall.recordAt(k), 0);
            }
        }
        // nothing of a longer record that was told before is left behind a shorter one
        String[] shorter = {"r1b1k2r/p1p1p1p1/1p1p4/n1n1n1n1/N1N1N1N1/1P1P4/P1P1P1P1/R1B1K2R w KQkq - 999 9999",
            "r1b1k2r/p1p1p1p1/1p1p1p2/8/8/1P1P1P2/P1P1P1P1/R3K2R b KQkq - 10 1000", Texts.START,
            "4k3/8/8/8/8/8/P7/4K3 w - - 100 10", "4k3/8/8/8/8/8/P7/4K3 w - - 10 10", "4k3/8/8/8/8/8/P7/4K3 w - - 0 1"};
        GameHall again = new GameHall(0);
        for (String text : shorter) {
            Check.due("submit of " + text, Check.submit(again, text), 0);
            for (int k = 0; k < 12; k++) {
                String part = 8 * k >= text.length() ? "" : text.substring(8 * k, Math.min(text.length(), 8 * k + 8));
                Check.due("recordAt " + k + " of " + text, again.recordAt(k), Plain.pack(part));
            }
        }
        GameHall taking = Check.hall("r3k2r/8/8/8/8/8/8/R3K2R w KQkq - 99 10");
        Check.due("record", Check.record(taking), "r3k2r/8/8/8/8/8/8/R3K2R w KQkq - 99 10");
        taking.proceed(Check.place(taking, "Rxa8+"));
        Check.due("record", Check.record(taking), "R3k2r/8/8/8/8/8/8/4K2R b Kk - 0 10");
        GameHall late = Check.hall("6k1/8/8/8/8/8/8/K6R b - - 148 9999");
        late.proceed(Check.place(late, "Kf7"));
        Check.due("NUMBER", Check.record(late), "8/5k2/8/8/8/8/8/K6R w - - 149 10000");
        GameHall latest = Check.hall(LongGame.text(600).replaceFirst(" 0 1 ", " 0 9999 "));
        Check.due("NUMBER behind 600 moves", latest.status(9), 10299);
        Check.due("its record", Check.record(latest).endsWith(" 10299"), true);
    }

    /** "The man on a square of the position; NONE if there is none such, or no game." */
    private static void squares() {
        GameHall hall = Check.hall("rnbqkbnr/pppppppp/8/8/8/8/PPPPPPPP/RNBQKBNR w KQkq - 0 1");
        Check.due("a1", hall.manOn(0), 4);
        Check.due("h1", hall.manOn(7), 4);
        Check.due("a8", hall.manOn(56), 10);
        Check.due("h8", hall.manOn(63), 10);
        Check.due("an empty square", hall.manOn(32), 0);
        for (int square : FAR) {
            Check.due("manOn " + square, hall.manOn(square), -1);
        }
        for (int square : new int[] {64, 65, 127, 128, 256, 1 << 16, Integer.MAX_VALUE}) {
            Check.due("manOn " + square, hall.manOn(square), -1);
        }
        for (int square : new int[] {-1, 0, 32, 63, 64}) {
            Check.due("manOn without a game", new GameHall(0).manOn(square), -1);
        }
    }

    /** "IndexOutOfBoundsException if there is none such, or no such w." */
    private static void rowsAndFacts() {
        GameHall hall = Check.hall(Texts.START + " e4 e5");
        for (int far : FAR) {
            Check.dueThrow("historyOf " + far + " 0", INDEX, () -> hall.historyOf(far, 0));
            Check.dueThrow("historyOf 0 " + far, INDEX, () -> hall.historyOf(0, far));
            Check.dueThrow("historyOf " + far + " " + far, INDEX, () -> hall.historyOf(far, far));
            Check.dueThrow("historyOf without a game", INDEX, () -> new GameHall(0).historyOf(0, far));
        }
        for (int far : new int[] {8, 9, 256, 1 << 29, Integer.MAX_VALUE}) {
            Check.dueThrow("historyOf " + far + " 0", INDEX, () -> hall.historyOf(far, 0));
            Check.dueThrow("historyOf 0 " + far, INDEX, () -> hall.historyOf(0, far));
            Check.dueThrow("historyOf 2 " + far, INDEX, () -> hall.historyOf(2, far));
        }
        Check.dueThrow("historyOf 3 0", INDEX, () -> hall.historyOf(3, 0));
        Check.dueThrow("historyOf 1 8, though it is a place of the row behind it", INDEX, () -> hall.historyOf(1, 8));
        Check.dueThrow("historyOf 1 -1", INDEX, () -> hall.historyOf(1, -1));
        int[] due = {1, 0, 0, 52 + 64 * 36, 29, 0, 2, -1};
        for (int w = 0; w < 8; w++) {
            Check.due("historyOf 2 " + w, hall.historyOf(2, w), due[w]);
            int which = w;
            Check.dueThrow("no game", INDEX, () -> new GameHall(0).historyOf(0, which));
        }
        hall.retreat();
        Check.dueThrow("a row that was taken back", INDEX, () -> hall.historyOf(2, 0));
        Check.due("the row before it", hall.historyOf(1, 0), 1);
    }

    /** "NONE for any other which", with a game or without; and what each is without one. */
    private static void whichStatus() {
        int[] none = {0, 0, -1, 0, -1, -1, -1, -1, -1, -1, 0, 0, 0, 0};
        for (int which = 0; which < 14; which++) {
            Check.due("status " + which + " of a new object", new GameHall(0).status(which), none[which]);
        }
        GameHall hall = Check.hall(Texts.START);
        for (int which : FAR) {
            Check.due("status " + which, hall.status(which), -1);
            Check.due("status " + which + " of a new object", new GameHall(0).status(which), -1);
        }
        for (int which : new int[] {14, 15, 16, 17, 32, 256, 1 << 16, Integer.MAX_VALUE}) {
            Check.due("status " + which, hall.status(which), -1);
            Check.due("status " + which + " of a new object", new GameHall(0).status(which), -1);
        }
    }

    /** "the fault of the latest TEXT that was read, whatever was called since (0 without one)". */
    private static void latestText() {
        GameHall hall = new GameHall(0);
        Check.due("no text", hall.status(1), 0);
        Check.due("no place", hall.status(2), -1);
        tape(hall, "x");
        Check.due("none was read", hall.status(1), 0);
        hall.submit(1);
        Check.due("a fault of the record", hall.status(1), 1);
        Check.due("no move", hall.status(2), -1);
        Check.submit(hall, Texts.START + " e4 e5 e5");
        Check.due("a fault of a move", hall.status(1), 22);
        Check.due("its number", hall.status(2), 2);
        Check.submit(hall, Texts.START + " e5");
        Check.due("its number, the first one", hall.status(2), 0);
        Check.submit(hall, "8/8/8/8/8/8/8/8 w - - 0 1 e5");
        Check.due("a fault of the position", hall.status(1), 7);
        Check.due("no move", hall.status(2), -1);
        Check.submit(hall, Texts.START + " e4 e6");
        Check.due("none", hall.status(1), 0);
        Check.due("no place", hall.status(2), -1);
        Check.submit(hall, Texts.START + " e4 f6 Qh5");
        String fault = hall.status(1) + " " + hall.status(2);
        Check.due("a missing +", fault, "24 2");
        tape(hall, "y");
        hall.proceed(0);
        hall.retreat();
        hall.retreat();
        hall.valueAt(1);
        Check.outcome(() -> hall.submit(0));
        Check.outcome(() -> hall.proceed(-1));
        Check.due("whatever was called since", hall.status(1) + " " + hall.status(2), fault);
        Check.due("texts that were taken", hall.status(13), 1);
    }

    /** The calls that are refused, and in which state; "What throws, or answers false, changes nothing." */
    private static void refusedChangesNothing() {
        String[] texts = {"", Texts.START + " e4 d5", "1R5k/R7/8/8/8/8/8/7K b - - 0 1", "4k3/8/8/8/8/8/8/4K3 w - - 0 1",
            "6k1/8/8/8/8/8/8/K6R w - - 150 1", "8/7k/8/8/3Q4/8/7P/K7 w - - 0 1"};
        for (String text : texts) {
            refused(text, "submit 0", hall -> hall.submit(0));
            refused(text, "submit 21", hall -> hall.submit(21));
            refused(text, "legalMove -1", hall -> hall.legalMove(-1));
            refused(text, "legalMove 999", hall -> hall.legalMove(999));
            refused(text, "spelling -1", hall -> hall.spelling(-1));
            refused(text, "spelling 999", hall -> hall.spelling(999));
            refused(text, "proceed -1", hall -> hall.proceed(-1));
            refused(text, "proceed 999", hall -> hall.proceed(999));
            refused(text, "linesTo -1", hall -> hall.linesTo(-1));
            refused(text, "linesTo 4", hall -> hall.linesTo(4));
            refused(text, "valueAt -1", hall -> hall.valueAt(-1));
            refused(text, "valueAt 5", hall -> hall.valueAt(5));
            refused(text, "bestAt -1", hall -> hall.bestAt(-1));
            refused(text, "bestAt 5", hall -> hall.bestAt(5));
            refused(text, "historyOf -1 0", hall -> hall.historyOf(-1, 0));
            refused(text, "historyOf 0 8", hall -> hall.historyOf(0, 8));
            if (text.isEmpty()) {
                refused(text, "distanceToMate", hall -> hall.distanceToMate());
                refused(text, "matingMove", hall -> hall.matingMove());
            } else if (Check.hall(text).status(4) >= 1 && Check.hall(text).status(4) <= 5) {
                refused(text, "proceed 0", hall -> hall.proceed(0));
            }
        }
        GameHall start = Check.hall(Texts.START);
        String before = Check.state(start);
        Check.due("retreat", start.retreat(), false);
        Check.due("after a retreat that is refused", Check.state(start), before);
        GameHall empty = new GameHall(0);
        Check.due("retreat", empty.retreat(), false);
        Check.due("after a retreat without a game", Check.state(empty), Check.state(new GameHall(0)));
    }

    /** A call that throws, on an object with some bytes on the tape and a game of a text, if there is one. */
    private static void refused(String text, String what, ToLongFunction<GameHall> call) {
        GameHall hall = new GameHall(0);
        if (!text.isEmpty()) {
            Check.submit(hall, text);
        }
        tape(hall, Texts.MIXED);
        String before = Check.state(hall);
        String outcome = Check.outcome(() -> call.applyAsLong(hall));
        Check.due(what + " throws", outcome.startsWith("throws."), true);
        Check.due("after " + what + " in " + text, Check.state(hall), before);
        Check.due("the tape's bytes after " + what, hall.submit(Check.tail(Texts.MIXED)), 0);
        Check.due("the tape's text after " + what, Check.record(hall), Texts.MIXED);
    }

    /** Calls that only tell something leave all as it was. */
    private static void askingChangesNothing() {
        for (String text : new String[] {Texts.START + " e4 d5 e5 f5", "8/8/8/8/3k4/8/8/KR6 w - - 0 1", Texts.PINS,
            "8/8/8/8/8/8/1k5P/7K w - - 0 1", "r3k2r/8/8/3pP3/8/8/8/R3K2R w KQkq d6 0 1"}) {
            GameHall hall = Check.hall(text);
            String before = Check.state(hall);
            int many = hall.legalMany();
            for (int k = 0; k < many; k++) {
                hall.spelling(k);
            }
            Check.due("after spelling", Check.state(hall), before);
            hall.linesTo(2);
            hall.valueAt(2);
            hall.bestAt(2);
            hall.distanceToMate();
            hall.matingMove();
            hall.recordAt(0);
            hall.manOn(4);
            Check.due("after asking " + text, Check.state(hall), before);
        }
    }

    /** "Of several exceptions that hold the first one listed is thrown." */
    private static void firstListed() {
        GameHall none = new GameHall(0);
        GameHall ended = Check.hall("4k3/8/8/8/8/8/8/4K2B w - - 0 1");
        GameHall full = Check.hall(LongGame.text(600));
        for (int wrong : new int[] {-1, 999, Integer.MIN_VALUE, Integer.MAX_VALUE}) {
            Check.dueThrow("proceed without a game", STATE, () -> none.proceed(wrong));
            Check.dueThrow("proceed when it has ended", STATE, () -> ended.proceed(wrong));
            Check.dueThrow("proceed behind 600 moves", STATE, () -> full.proceed(wrong));
            Check.dueThrow("linesTo without a game", STATE, () -> none.linesTo(wrong));
            Check.dueThrow("valueAt without a game", STATE, () -> none.valueAt(wrong));
            Check.dueThrow("bestAt without a game", STATE, () -> none.bestAt(wrong));
        }
        for (int depth = 0; depth <= 4; depth++) {
            int right = depth;
            Check.dueThrow("linesTo without a game", STATE, () -> none.linesTo(right));
            Check.dueThrow("valueAt without a game", STATE, () -> none.valueAt(right));
            Check.dueThrow("bestAt without a game", STATE, () -> none.bestAt(right));
        }
        Check.dueThrow("distanceToMate without a game", STATE, () -> none.distanceToMate());
        Check.dueThrow("matingMove without a game", STATE, () -> none.matingMove());
    }

    /** "An object is used for at most 512 calls": the last of them answers as the first one does. */
    private static void fiveHundredAndTwelve() {
        GameHall texts = new GameHall(0);
        for (int k = 1; k <= 127; k++) {
            Check.due("text " + k, Check.submit(texts, Texts.START), 0);
        }
        int[] which = {13, 3, 6, 10};
        int[] due = {127, 1, 15, 32};
        for (int k = 0; k < 4; k++) {
            Check.due("call " + (509 + k), texts.status(which[k]), due[k]);
        }
        GameHall moves = new GameHall(0);
        Check.submit(moves, Texts.START);
        for (int k = 0; k < 250; k++) {
            Check.due("there", moves.proceed(k % 20), 0);
            Check.due("and back", moves.retreat(), true);
        }
        for (int k = 0; k < 7; k++) {
            Check.due("call " + (505 + k), moves.proceed(0) >= 0, true);
        }
        Check.due("call 512", moves.status(3), 8);
        GameHall looks = new GameHall(0);
        Check.submit(looks, "8/8/8/8/3k4/8/8/KR6 w - - 0 1");
        int distance = looks.distanceToMate();
        int best = looks.matingMove();
        for (int k = 0; k < 253; k++) {
            Check.due("distance", looks.distanceToMate(), distance);
            Check.due("mating move", looks.matingMove(), best);
        }
        Check.due("call 512", looks.legalMany() > 0, true);
        GameHall tapes = new GameHall(0);
        for (int k = 0; k < 512; k++) {
            Check.due("tape " + k, tapes.tape(k, k, k, k, k), k < 409);
        }
    }
}
