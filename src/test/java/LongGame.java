import java.util.ArrayList;
import java.util.List;

/** A game of many moves that does not end: men walk about, and now and then a pawn moves. */
final class LongGame {
    private LongGame() {
    }

    /** The text of the first so many moves; always the same ones. */
    static String text(int many) {
        Plain.Position p = Plain.read(Texts.START);
        StringBuilder text = new StringBuilder(Texts.START);
        long seed = 5;
        for (int k = 0; k < many; k++) {
            List<Integer> good = quiet(p);
            seed = seed * 6364136223846793005L + 1442695040888963407L;
            int move = good.get((int) ((seed >>> 33) % good.size()));
            text.append(' ').append(Plain.spell(p, move));
            p = Plain.after(p, move);
        }
        return text.toString();
    }

    /** Moves that take nothing and attack no king; a pawn's only when the clock runs high. */
    private static List<Integer> quiet(Plain.Position p) {
        List<Integer> good = new ArrayList<>();
        for (int move : Plain.list(p)) {
            boolean pawn = Plain.kind(p.men[move % 64]) == 1;
            Plain.Position q = Plain.after(p, move);
            if (pawn == p.clock > 60 && Plain.manyMen(q) == 32 && !Plain.check(q, q.side)) {
                good.add(move);
            }
        }
        return good;
    }
}
