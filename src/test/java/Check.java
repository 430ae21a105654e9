/** What the tests share: counting wrong answers, and putting texts on the tape. */
final class Check {
    private static int calls = 0;
    private static int wrong = 0;

    private Check() {
    }

    /** A call that may throw. */
    interface Call {
        long run();
    }

    static void due(String what, long got, long want) {
        calls++;
        if (got != want) {
            wrong++;
            System.out.println(what + " answered " + got + ", due is " + want);
        }
    }

    static void due(String what, boolean got, boolean want) {
        due(what, got ? 1 : 0, want ? 1 : 0);
    }

    static void due(String what, String got, String want) {
        calls++;
        if (!got.equals(want)) {
            wrong++;
            System.out.println(what + " answered \"" + got + "\", due is \"" + want + "\"");
        }
    }

    /** That a call throws just this. */
    static void dueThrow(String what, Class<? extends RuntimeException> want, Call call) {
        due(what, outcome(call), "throws." + want.getSimpleName());
    }

    /** The answer of a call, or the name of what it throws. */
    static String outcome(Call call) {
        try {
            return "" + call.run();
        } catch (RuntimeException e) {
            return "throws." + e.getClass().getSimpleName();
        }
    }

    /** Prints what there was, and ends the test: with exit code 1 if an answer was wrong. */
    static void end(String name) {
        System.out.println(name + ": " + calls + " answers, " + wrong + " wrong");
        if (wrong > 0 || calls == 0) {
            System.exit(1);
        }
    }

    static int wrongs() {
        return wrong;
    }

    /** The numbers of one call of tape: 20 characters from a place on, filled up with a sign that no text has. */
    static int[] numbers(String text, int at) {
        int[] numbers = new int[5];
        for (int k = 0; k < 20; k++) {
            int sign = at + k < text.length() ? text.charAt(at + k) : '~';
            numbers[k / 4] = numbers[k / 4] << 8 | sign;
        }
        return numbers;
    }

    /** The n for submit, so that just the text is read. */
    static int tail(String text) {
        return text.isEmpty() ? 20 : (text.length() - 1) % 20 + 1;
    }

    static int submit(GameHall hall, String text) {
        for (int at = 0; at < text.length(); at += 20) {
            int[] n = numbers(text, at);
            hall.tape(n[0], n[1], n[2], n[3], n[4]);
        }
        return hall.submit(tail(text));
    }

    /** A new object with the game of a text that must be right. */
    static GameHall hall(String text) {
        GameHall hall = new GameHall(4);
        int many = submit(hall, text);
        int words = text.split(" ").length - 6;
        due("submit of " + text, many, words);
        return hall;
    }

    /** The fault of a text and the number of the move with it; 0 and NONE if the text is taken. */
    static void fault(String text, int fault, int move) {
        GameHall hall = new GameHall(2);
        int many = submit(hall, text);
        due("fault of " + text, hall.status(1), fault);
        due("place in " + text, hall.status(2), move);
        due("submit of " + text, many, fault == 0 ? text.split(" ").length - 6 : -1);
        due("positions after " + text, hall.status(3), fault == 0 ? many + 1 : 0);
        due("taken after " + text, hall.status(13), fault == 0 ? 1 : 0);
    }

    /** The fault of a text whose moves, if it has some, are of no matter here. */
    static void fault(String text, int fault) {
        fault(text, fault, -1);
    }

    /** All that can be asked of an object without looking ahead: two that answer alike are alike. */
    static String state(GameHall hall) {
        StringBuilder text = new StringBuilder();
        for (int which = 0; which < 14; which++) {
            text.append(hall.status(which)).append(' ');
        }
        text.append(record(hall)).append(" |");
        int many = hall.legalMany();
        for (int k = 0; k < many; k++) {
            text.append(' ').append(hall.legalMove(k));
        }
        int rows = hall.status(3);
        for (int i = 0; i < rows; i++) {
            text.append(" |");
            for (int w = 0; w < 8; w++) {
                text.append(' ').append(hall.historyOf(i, w));
            }
        }
        return text.toString();
    }

    static String unpack(long packed) {
        StringBuilder text = new StringBuilder();
        for (int shift = 56; shift >= 0; shift -= 8) {
            text.append((char) (packed >>> shift & 255));
        }
        // only those behind the text are none of it: a 0 ahead or inside is left, so that it is seen
        while (text.length() > 0 && text.charAt(text.length() - 1) == 0) {
            text.setLength(text.length() - 1);
        }
        return text.toString();
    }

    static String record(GameHall hall) {
        StringBuilder text = new StringBuilder();
        long part = hall.recordAt(0);
        for (int k = 1; k < 16 && part != 0; k++) {
            text.append(unpack(part));
            part = hall.recordAt(k);
        }
        return text.toString();
    }

    /** All spellings, in the order of the LIST. */
    static String spellings(GameHall hall) {
        StringBuilder text = new StringBuilder();
        int many = hall.legalMany();
        for (int k = 0; k < many; k++) {
            text.append(k > 0 ? " " : "").append(unpack(hall.spelling(k)));
        }
        return text.toString();
    }

    /** The place of a spelling in the LIST. */
    static int place(GameHall hall, String spelling) {
        int many = hall.legalMany();
        for (int k = 0; k < many; k++) {
            if (unpack(hall.spelling(k)).equals(spelling)) {
                return k;
            }
        }
        throw new IllegalArgumentException("no move " + spelling + " among " + spellings(hall));
    }
}
