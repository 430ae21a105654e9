/** The edges of lines, VALUE and BEST: how deep one may look, and what is worth what. */
public final class EdgesLookTest {
    private static final Class<IllegalArgumentException> ARGUMENT = IllegalArgumentException.class;
    private static final String MATE = "1R5k/R7/8/8/8/8/8/7K b - - 0 1";
    private static final String STALEMATE = "7k/8/6Q1/8/8/8/8/K7 b - - 0 1";
    /** 30 and 31 moves with four men; 35 with three. */
    private static final String THIRTY = "8/7k/8/8/3Q4/7P/8/K7 w - - 0 1";
    private static final String MORE = "8/7k/8/8/3Q4/8/7P/K7 w - - 0 1";
    private static final String THREE = "8/7k/8/8/3Q4/8/1K6/8 w - - 0 1";

    public static void main(String[] args) {
        noLines();
        depthOfLines();
        depthOfValues();
        depthByMoves();
        mateAndStalemate();
        worths();
        mateDistances();
        stalemateIsBetter();
        bestIsTheFirst();
        noBest();
        historyDoesNotMatter();
        Check.end("EdgesLookTest");
    }

    /** "How many lines of depth LEGAL moves there are (1 for 0)." */
    private static void noLines() {
        for (String text : new String[] {Texts.START, THREE, MATE, STALEMATE}) {
            GameHall hall = Check.hall(text);
            Check.due("linesTo 0 of " + text, hall.linesTo(0), 1);
            Check.due("linesTo 1 of " + text, hall.linesTo(1), hall.legalMany());
        }
        for (int depth = 1; depth <= 3; depth++) {
            Check.due("mate has no lines", Check.hall(MATE).linesTo(depth), 0);
            Check.due("nor has stalemate", Check.hall(STALEMATE).linesTo(depth), 0);
        }
        // lines that end early do not count; a move that becomes four things is four
        Check.due("linesTo 2", Check.hall("7k/R7/8/8/8/8/8/1R5K w - - 0 1").linesTo(2),
                linesByGoing("7k/R7/8/8/8/8/8/1R5K w - - 0 1"));
        Check.due("linesTo 2", Check.hall("7k/P7/8/8/8/8/8/7K w - - 0 1").linesTo(2),
                linesByGoing("7k/P7/8/8/8/8/8/7K w - - 0 1"));
    }

    private static long linesByGoing(String text) {
        GameHall hall = Check.hall(text);
        long sum = 0;
        int many = hall.legalMany();
        for (int k = 0; k < many; k++) {
            hall.proceed(k);
            sum += hall.legalMany();
            hall.retreat();
        }
        return sum;
    }

    /** "IllegalArgumentException if depth is not 0 .. 2, or 3, where the LIST has at most 30 moves." */
    private static void depthOfLines() {
        lines(THIRTY, 30, 3);
        lines(MORE, 31, 2);
        lines(Texts.START, 20, 3);
        lines(Texts.CROWD, 218, 2);
        lines(MATE, 0, 3);
        lines(STALEMATE, 0, 3);
        // for lines three men are nothing special
        lines(THREE, Check.hall(THREE).legalMany(), 2);
        Check.due("more than 30 with three men", Check.hall(THREE).legalMany() > 30, true);
        lines("6k1/8/8/8/8/8/8/K6R w - - 0 1", 16, 3);
        lines("7k/8/8/8/8/8/8/K7 w - - 0 1", 3, 3);
    }

    private static void lines(String text, int moves, int most) {
        GameHall hall = Check.hall(text);
        Check.due("legalMany of " + text, hall.legalMany(), moves);
        for (int depth : new int[] {Integer.MIN_VALUE, -3, -2, -1, 0, 1, 2, 3, 4, 5, 256, 1 << 16, Integer.MAX_VALUE}) {
            String got = Check.outcome(() -> hall.linesTo(depth));
            Check.due("linesTo " + depth + " of " + text, got.startsWith("throws."), depth < 0 || depth > most);
            if (depth < 0 || depth > most) {
                Check.due("linesTo " + depth + " of " + text, got, "throws." + ARGUMENT.getSimpleName());
            }
        }
    }

    /** "... or with at most three men 0 .. 4." */
    private static void depthOfValues() {
        values(THIRTY, 3);
        values(MORE, 2);
        values(Texts.START, 3);
        values(Texts.CROWD, 2);
        values(MATE, 3);
        values("7k/8/8/8/8/8/8/K7 w - - 0 1", 4);
        values(THREE, 4);
        values(STALEMATE, 4);
        values("6k1/8/8/8/8/8/8/K6B w - - 0 1", 4);
        values("6k1/8/8/8/8/8/7P/K6B w - - 0 1", 3);
        values("6k1/6p1/8/8/8/8/7P/K7 b - - 0 1", 3);
        // "men": the kings count, and what is taken does not
        GameHall hall = Check.hall("6k1/8/8/8/8/8/1r5P/K7 w - - 0 1");
        Check.dueThrow("valueAt 4 with four men", ARGUMENT, () -> hall.valueAt(4));
        hall.proceed(Check.place(hall, "Kxb2"));
        Check.due("valueAt 4 with three", hall.valueAt(4) < 0, true);
        hall.retreat();
        Check.dueThrow("valueAt 4 with four men again", ARGUMENT, () -> hall.valueAt(4));
    }

    private static void values(String text, int most) {
        GameHall hall = Check.hall(text);
        for (int depth : new int[] {Integer.MIN_VALUE, -3, -2, -1, 0, 1, 2, 3, 4, 5, 6, 256, 1 << 16, Integer.MAX_VALUE}) {
            String value = Check.outcome(() -> hall.valueAt(depth));
            String best = Check.outcome(() -> hall.bestAt(depth));
            boolean throwing = depth < 0 || depth > most;
            Check.due("valueAt " + depth + " of " + text, value.startsWith("throws."), throwing);
            Check.due("bestAt " + depth + " of " + text, best.startsWith("throws."), throwing);
            if (throwing) {
                Check.due("valueAt " + depth + " of " + text, value, "throws." + ARGUMENT.getSimpleName());
                Check.due("bestAt " + depth + " of " + text, best, "throws." + ARGUMENT.getSimpleName());
            }
        }
    }

    /** The depth goes by the LIST of the position as it is, move by move. */
    private static void depthByMoves() {
        GameHall hall = Check.hall(MORE);
        Check.dueThrow("linesTo 3 with 31 moves", ARGUMENT, () -> hall.linesTo(3));
        hall.proceed(Check.place(hall, "h3"));
        Check.due("linesTo 3 with few", hall.linesTo(3) > 0, true);
        hall.proceed(0);
        hall.retreat();
        hall.retreat();
        Check.dueThrow("linesTo 3 with 31 moves again", ARGUMENT, () -> hall.linesTo(3));
        Check.dueThrow("valueAt 3 with 31 moves again", ARGUMENT, () -> hall.valueAt(3));
        Check.dueThrow("bestAt 3 with 31 moves again", ARGUMENT, () -> hall.bestAt(3));
    }

    private static void value(String text, int depth, int due) {
        Check.due("valueAt " + depth + " of " + text, Check.hall(text).valueAt(depth), due);
        String other = Texts.mirrored(text);
        Check.due("valueAt " + depth + " of " + other, Check.hall(other).valueAt(depth), due);
    }

    /** "-1000 if it is mate, 0 if it is stalemate": at every depth, also at 0, whatever the men are worth. */
    private static void mateAndStalemate() {
        for (int depth = 0; depth <= 3; depth++) {
            value(MATE, depth, -1000);
            value(STALEMATE, depth, 0);
        }
        value(STALEMATE, 4, 0);
        value("8/8/8/8/8/1K6/8/k6R b - - 0 1", 4, -1000);
    }

    /** "if d is 0, the sum of the men of that side less that of the other's". */
    private static void worths() {
        String[] men = {"P", "N", "B", "R", "Q"};
        int[] worth = {1, 3, 3, 5, 9};
        for (int k = 0; k < 5; k++) {
            value("7k/8/8/8/8/8/" + men[k] + "7/4K3 w - - 0 1", 0, worth[k]);
            value("7k/8/8/8/8/8/" + men[k].toLowerCase() + "7/5K2 w - - 0 1", 0, -worth[k]);
        }
        value(Texts.CROWD, 0, 101);
        value("7k/8/8/8/8/8/8/K7 w - - 0 1", 0, 0);
    }

    /** "B(v) is -v, but -v + 1 if that is below -900, and -v - 1 if it is above 900": mates by how far they are. */
    private static void mateDistances() {
        // mate in one half move, and how it looks from one, two, three half moves before
        value("8/8/8/8/8/1K6/7R/1k6 w - - 0 1", 0, 5);
        for (int depth = 1; depth <= 4; depth++) {
            value("8/8/8/8/8/1K6/7R/1k6 w - - 0 1", depth, 999);
        }
        int[] two = {-5, -5, -998, -998, -998};
        int[] three = {5, 5, 5, 997, 997};
        for (int depth = 0; depth <= 4; depth++) {
            value("8/8/8/8/8/1K6/7R/k7 b - - 0 1", depth, two[depth]);
            value("8/8/8/8/8/2K5/7R/k7 w - - 0 1", depth, three[depth]);
        }
        // four half moves: every move of the side to move leads into that
        String four = four();
        value(four, 2, -valueOfMen(four));
        value(four, 3, -valueOfMen(four));
        value(four, 4, -996);
    }

    /** A position of a king alone to move that is mate in four half moves, by the second model. */
    private static String four() {
        byte[] table = PlainEndings.table();
        for (int i = 4 << 19; i < 5 << 19; i++) {
            if ((i & 1) == 1 && table[i] == 4) {
                Plain.Position p = new Plain.Position();
                p.men[i >> 13 & 63] = 4;
                p.men[i >> 7 & 63] = 6;
                p.men[i >> 1 & 63] = 12;
                p.side = 1;
                if (Plain.list(p).size() > 1) {
                    return Plain.record(p);
                }
            }
        }
        throw new IllegalStateException("no position of four half moves");
    }

    private static int valueOfMen(String text) {
        return -Check.hall(text).valueAt(0);
    }

    /** Stalemate is worth 0 and no more: better than to lose, worse than to have more men. */
    private static void stalemateIsBetter() {
        // all of white's moves but the stalemate keep the queen
        GameHall hall = Check.hall("7k/8/8/6Q1/8/8/8/K7 w - - 0 1");
        Check.due("VALUE", hall.valueAt(1), 9);
        Check.due("BEST is not the stalemate", Check.unpack(hall.spelling(hall.bestAt(1))).equals("Qg6"), false);
        // the king alone can only take the man that leaves it without a move, or lose it
        value("k7/8/1QK5/8/8/8/8/8 b - - 0 1", 0, 0);
        value("8/8/8/8/8/6k1/5q2/7K w - - 0 1", 0, 0);
        value("8/8/8/8/8/6k1/5q2/7K w - - 0 1", 3, 0);
    }

    /** "The BEST move is the first one in the LIST with the greatest." */
    private static void bestIsTheFirst() {
        for (String text : new String[] {"7k/R7/8/8/8/8/8/1R5K w - - 0 1", "7k/8/8/8/8/8/8/K6R b - - 0 1", THIRTY,
            "4k3/P6P/8/8/8/8/8/4K3 w - - 0 1", "k7/8/1n1n4/2Q5/1n1n4/8/8/7K w - - 0 1", Texts.PINS, Texts.CHECKED,
            "6k1/8/8/8/8/8/1r5P/K7 w - - 0 1", "3q3k/8/8/8/8/8/8/3Q3K w - - 0 1"}) {
            for (int depth = 1; depth <= 2; depth++) {
                Check.due("bestAt " + depth + " of " + text, Check.hall(text).bestAt(depth), firstGreatest(text, depth));
            }
        }
    }

    /** By going to each position and asking for its value there. */
    private static int firstGreatest(String text, int depth) {
        int best = -1;
        int greatest = -5000;
        int many = Check.hall(text).legalMany();
        for (int k = 0; k < many; k++) {
            GameHall hall = Check.hall(text);
            hall.proceed(k);
            int back = -hall.valueAt(depth - 1);
            back = back < -900 ? back + 1 : back > 900 ? back - 1 : back;
            if (back > greatest) {
                greatest = back;
                best = k;
            }
        }
        Check.due("valueAt " + depth + " of " + text, Check.hall(text).valueAt(depth), greatest);
        return best;
    }

    /** "NONE if it is empty, or depth is 0. Throws as valueAt()." */
    private static void noBest() {
        for (int depth = 0; depth <= 3; depth++) {
            Check.due("bestAt " + depth + " at mate", Check.hall(MATE).bestAt(depth), -1);
            Check.due("bestAt " + depth + " at stalemate", Check.hall(STALEMATE).bestAt(depth), -1);
        }
        Check.due("bestAt 4 at stalemate, three men", Check.hall(STALEMATE).bestAt(4), -1);
        Check.dueThrow("bestAt 5 at stalemate, three men", ARGUMENT, () -> Check.hall(STALEMATE).bestAt(5));
        Check.dueThrow("bestAt 4 at mate, four men", ARGUMENT, () -> Check.hall(MATE).bestAt(4));
        Check.dueThrow("bestAt -1 at mate", ARGUMENT, () -> Check.hall(MATE).bestAt(-1));
        for (String text : new String[] {Texts.START, Texts.CROWD, THREE}) {
            Check.due("bestAt 0 of " + text, Check.hall(text).bestAt(0), -1);
        }
    }

    /** "(What came before does not matter, nor COUNTS and CLOCKS.)" */
    private static void historyDoesNotMatter() {
        String record = "6k1/8/8/8/8/8/8/K6R w - - ";
        int due = Check.hall(record + "0 1").valueAt(3);
        int best = Check.hall(record + "0 1").bestAt(3);
        long lines = Check.hall(record + "0 1").linesTo(3);
        for (String text : new String[] {record + "99 1", record + "148 1", record + "150 1", record + "999 1",
            record + "0 1" + " Rh2 Kf8 Rh1 Kg8".repeat(3), record + "0 1" + " Rh2 Kf8 Rh1 Kg8".repeat(4)}) {
            Check.due("VALUE of " + text, Check.hall(text).valueAt(3), due);
            Check.due("BEST of " + text, Check.hall(text).bestAt(3), best);
            Check.due("lines of " + text, Check.hall(text).linesTo(3), lines);
        }
        // nor is a DEAD position on the way the end of it
        Check.due("lines over a DEAD position", Check.hall("7k/8/8/8/8/8/1p6/K7 w - - 0 1").linesTo(3),
                Plain.lines(Plain.read("7k/8/8/8/8/8/1p6/K7 w - - 0 1"), 3));
    }
}
