/** The edges of DISTANCE and MATING move: what has one, what has none, and where the way begins and ends. */
public final class EdgesDistanceTest {
    public static void main(String[] args) {
        oneManBesides();
        withoutRights();
        passantPlaysNoPart();
        mateHasNone();
        stalemateAndTaking();
        knightsAndBishops();
        becoming();
        kingAloneHasNoGoodMove();
        firstInTheList();
        clocksAndCounts();
        Check.end("EdgesDistanceTest");
    }

    private static void distance(String text, int due) {
        GameHall hall = Check.hall(text);
        Check.due("distanceToMate of " + text, hall.distanceToMate(), due);
        Check.due("matingMove of " + text, hall.matingMove() >= 0, due > 0);
        GameHall other = Check.hall(Texts.mirrored(text));
        Check.due("distanceToMate of " + Texts.mirrored(text), other.distanceToMate(), due);
        Check.due("matingMove of " + Texts.mirrored(text), other.matingMove() >= 0, due > 0);
    }

    /** "a position with two kings and one man besides": with none, or with two, there is no DISTANCE. */
    private static void oneManBesides() {
        distance("8/8/8/8/8/1K6/8/1k6 w - - 0 1", -1);
        distance("8/8/8/8/8/1K6/7R/1k6 w - - 0 1", 1);
        for (String man : new String[] {"P", "N", "B", "R", "Q", "p", "n", "b", "r", "q"}) {
            distance("8/8/8/8/6" + man + "1/1K6/7R/1k6 w - - 0 1", -1);
        }
        // mate with four men has none either
        distance("8/8/8/8/6P1/1K6/8/1k5R b - - 0 1", -1);
        // once the man is taken there is one
        GameHall hall = Check.hall("8/8/8/8/7n/8/7R/1K1k4 w - - 0 1");
        Check.due("four men", hall.distanceToMate(), -1);
        Check.due("no mating move", hall.matingMove(), -1);
        hall.proceed(Check.place(hall, "Rxh4"));
        Check.due("three men", hall.distanceToMate() > 0, true);
        hall.retreat();
        Check.due("four men again", hall.distanceToMate(), -1);
    }

    /** "without RIGHTS". */
    private static void withoutRights() {
        distance("8/8/8/8/8/8/2k5/R3K3 w Q - 0 1", -1);
        distance("8/8/8/8/8/8/6k1/4K2R w K - 0 1", -1);
        Check.due("without", Check.hall("8/8/8/8/8/8/6k1/4K2R w - - 0 1").distanceToMate() > 0, true);
        // a move of the rook ends the right
        GameHall hall = Check.hall("8/8/8/8/8/8/2k5/R3K3 w Q - 0 1");
        hall.proceed(Check.place(hall, "Ra2+"));
        Check.due("the right has gone", hall.distanceToMate() > 0, true);
        hall.retreat();
        Check.due("it is there again", hall.distanceToMate(), -1);
    }

    /** "(a PASSANT plays no part)". */
    private static void passantPlaysNoPart() {
        for (String squares : new String[] {"8/8/8/8/4P3/8/8/k5K1", "8/8/8/8/P7/8/1k6/6K1", "8/8/8/8/7P/k7/8/6K1"}) {
            char file = (char) ('a' + Plain.find(Plain.read(squares + " b - - 0 1"), 1) % 8);
            GameHall with = Check.hall(squares + " b - " + file + "3 0 1");
            GameHall without = Check.hall(squares + " b - - 0 1");
            Check.due("PASSANT", with.status(7), file - 'a');
            Check.due("a DISTANCE of " + squares, without.distanceToMate() > 0, true);
            Check.due("the same with the PASSANT", with.distanceToMate(), without.distanceToMate());
            Check.due("the same move", with.matingMove(), without.matingMove());
        }
    }

    /** "mate has 0"; "The MATING move of a position with a DISTANCE above 0". */
    private static void mateHasNone() {
        distance("8/8/8/8/8/1K6/8/1k5R b - - 0 1", 0);
        distance("8/8/8/8/8/1K6/1Q6/1k6 b - - 0 1", 0);
        distance("8/8/8/8/8/1K6/8/k6R b - - 0 1", 0);
        GameHall hall = Check.hall("8/8/8/8/8/1K6/7R/1k6 w - - 0 1");
        Check.due("one half move", hall.distanceToMate(), 1);
        hall.proceed(hall.matingMove());
        Check.due("mate", hall.status(4), 1);
        Check.due("its DISTANCE", hall.distanceToMate(), 0);
        Check.due("its MATING move", hall.matingMove(), -1);
    }

    /** "it has a DISTANCE if it has a LEGAL move and all of them lead to positions that have one". */
    private static void stalemateAndTaking() {
        distance("7k/8/6Q1/8/8/8/8/K7 b - - 0 1", -1);
        distance("k7/P7/1K6/8/8/8/8/8 b - - 0 1", -1);
        // the man can be taken: one LEGAL move leads to a position without
        distance("8/8/8/8/8/8/1R6/k6K b - - 0 1", -1);
        distance("8/8/8/8/8/8/1Q6/k6K b - - 0 1", -1);
        distance("8/8/8/8/3kP3/8/8/7K b - - 0 1", -1);
        // guarded it cannot be; but then there may be no move at all
        Check.due("guarded", Check.hall("8/8/8/8/8/2K5/1R6/1k6 b - - 0 1").distanceToMate() > 0, true);
        distance("8/8/8/8/8/2K5/1R6/k7 b - - 0 1", -1);
    }

    /** "All other positions have none": a knight or a bishop never mates. */
    private static void knightsAndBishops() {
        for (String man : new String[] {"N", "B"}) {
            distance("7k/8/6K1/8/8/8/8/1" + man + "6 w - - 0 1", -1);
            distance("7k/8/6K1/8/8/8/8/1" + man + "6 b - - 0 1", -1);
            distance("7k/5K2/8/8/8/" + man + "7/8/8 b - - 0 1", -1);
        }
    }

    /** A pawn has the DISTANCE of what it becomes; what it becomes best need not be a queen. */
    private static void becoming() {
        distance("k7/2P5/1K6/8/8/8/8/8 w - - 0 1", 1);
        distance("8/P7/8/8/8/8/1K6/7k w - - 0 1", Check.hall("Q7/8/8/8/8/8/1K6/7k b - - 0 1").distanceToMate() + 1);
        // a queen would leave the king no move: the rook mates in two more
        GameHall hall = Check.hall("8/k1P5/8/1K6/8/8/8/8 w - - 0 1");
        Check.due("a DISTANCE", hall.distanceToMate() > 0, true);
        Check.due("the first that is nearer", Check.unpack(hall.spelling(hall.matingMove())),
                Plain.spell(Plain.read("8/k1P5/8/1K6/8/8/8/8 w - - 0 1"), mating("8/k1P5/8/1K6/8/8/8/8 w - - 0 1")));
        // the edge's pawn with the king in its corner
        distance("k7/8/8/8/P7/8/8/K7 w - - 0 1", -1);
        distance("1k6/8/8/8/P7/8/8/K7 w - - 0 1", -1);
    }

    /** The first move of the LIST that leads to a DISTANCE of 1 less, by going to each. */
    private static int mating(String text) {
        GameHall hall = Check.hall(text);
        int distance = hall.distanceToMate();
        int many = hall.legalMany();
        for (int k = 0; k < many; k++) {
            hall.proceed(k);
            int left = hall.distanceToMate();
            hall.retreat();
            if (left == distance - 1) {
                return hall.legalMove(k);
            }
        }
        return -1;
    }

    /** "1 more than the greatest of these" for the king alone, "1 more than the least" for the other side. */
    private static void kingAloneHasNoGoodMove() {
        for (String text : new String[] {"8/8/8/8/3k4/8/8/KR6 b - - 0 1", "8/8/8/8/3k4/8/8/KR6 w - - 0 1",
            "8/8/8/8/3k4/8/8/KQ6 b - - 0 1", "8/8/8/8/3k4/8/8/KQ6 w - - 0 1", "8/8/8/8/8/8/1k5P/7K w - - 0 1",
            "8/8/8/8/8/8/1k5P/7K b - - 0 1", "4k3/8/4K3/4P3/8/8/8/8 b - - 0 1", "4k3/8/4K3/4P3/8/8/8/8 w - - 0 1"}) {
            GameHall hall = Check.hall(text);
            boolean strong = hall.status(5) == 0;
            int many = hall.legalMany();
            int due = -1;
            boolean escapes = false;
            for (int k = 0; k < many; k++) {
                hall.proceed(k);
                int left = hall.distanceToMate();
                hall.retreat();
                escapes |= left < 0;
                due = left < 0 ? due : due < 0 ? left : strong ? Math.min(due, left) : Math.max(due, left);
            }
            boolean none = due < 0 || escapes && !strong;
            Check.due("distanceToMate of " + text, hall.distanceToMate(), none ? -1 : due + 1);
        }
    }

    /** "the first one in the LIST that leads to a DISTANCE of 1 less". */
    private static void firstInTheList() {
        for (String text : new String[] {"8/8/8/8/8/1K6/7R/k7 b - - 0 1", "8/8/8/8/8/2K5/7R/k7 w - - 0 1",
            "8/8/8/8/3k4/8/8/KR6 w - - 0 1", "8/8/8/8/3k4/8/8/KQ6 b - - 0 1", "8/8/8/8/8/8/1k5P/7K w - - 0 1",
            "k7/2P5/1K6/8/8/8/8/8 w - - 0 1", "8/k7/8/2Q5/8/8/8/K7 b - - 0 1"}) {
            GameHall hall = Check.hall(text);
            int place = hall.matingMove();
            Check.due("matingMove of " + text, place < 0 ? -1 : hall.legalMove(place), mating(text));
        }
    }

    /** Neither clocks nor counts have a part in it, nor a game that has ended by them. */
    private static void clocksAndCounts() {
        for (String behind : new String[] {"0 1", "100 1", "149 1", "150 9999", "999 1",
            "0 1" + " Rg2 Kb1 Rh2 Ka1".repeat(2), "0 1" + " Rg2 Kb1 Rh2 Ka1".repeat(4)}) {
            GameHall hall = Check.hall("8/8/8/8/8/2K5/7R/k7 w - - " + behind);
            Check.due("distanceToMate with " + behind, hall.distanceToMate(), 3);
            Check.due("matingMove with " + behind, Check.unpack(hall.spelling(hall.matingMove())), "Kb3");
        }
    }
}
