/** The latest move is taken back, whatever it was. */
public final class Promise05RetreatTest {
    public static void main(String[] args) {
        Check.due("without a game", new GameHall(0).retreat(), false);
        everyMove(Texts.START);
        everyMove(Texts.MIXED);
        everyMove(Texts.PINS);
        everyMove(Texts.CHECKED);
        everyMove(Texts.BECOMING);
        everyMove("4k3/8/8/3pPp2/8/8/8/4K3 w - f6 0 1");
        everyMove("4k3/8/8/8/3PpP2/8/8/4K3 b - d3 0 9999");
        backToTheStart();
        ended();
        Check.end("Promise05RetreatTest");
    }

    private static void everyMove(String text) {
        GameHall hall = Check.hall(text);
        int many = hall.legalMany();
        String spellings = Check.spellings(hall);
        for (int k = 0; k < many; k++) {
            GameHall one = Check.hall(text);
            one.proceed(k);
            Check.due("retreat " + k, one.retreat(), true);
            Check.due("record after " + k, Check.record(one), text);
            Check.due("positions after " + k, one.status(3), 1);
            Check.due("LIST after " + k, Check.spellings(one), spellings);
            Check.due("men's worth after " + k, one.valueAt(0), new Plainly(text).value());
            Check.due("none is left", one.retreat(), false);
        }
    }

    /** The worth of the men of a record, by its letters. */
    private static final class Plainly {
        private final String[] fields;

        Plainly(String record) {
            fields = record.split(" ");
        }

        int value() {
            int sum = 0;
            for (char sign : fields[0].toCharArray()) {
                int worth = " pnbrq".indexOf(Character.toLowerCase(sign));
                int[] worths = {0, 1, 3, 3, 5, 9};
                sum += worth <= 0 ? 0 : Character.isUpperCase(sign) ? worths[worth] : -worths[worth];
            }
            return fields[1].equals("w") ? sum : -sum;
        }
    }

    private static void backToTheStart() {
        String moves = " e4 Nf6 e5 d5 exd6 Nc6 dxc7 e5 cxd8Q+ Nxd8 Nf3 Be7 Bc4 0-0 0-0 Bd7 Nc3 a5 d4 exd4 Nxd4";
        GameHall hall = Check.hall(Texts.START + moves);
        String[] words = moves.trim().split(" ");
        for (int k = words.length; k > 0; k--) {
            Check.due("positions", hall.status(3), k + 1);
            Check.due("retreat", hall.retreat(), true);
            Check.due("the move is in the LIST again", Check.place(hall, words[k - 1]) >= 0, true);
        }
        Check.due("record", Check.record(hall), Texts.START);
        Check.due("retreat at the start", hall.retreat(), false);
        Check.due("nothing changed", Check.record(hall), Texts.START);
        Check.due("positions", hall.status(3), 1);
        Check.due("taken texts", hall.status(13), 1);
    }

    private static void ended() {
        GameHall hall = Check.hall(Texts.START + " f3 e5 g4 Qh4#");
        Check.due("verdict", hall.status(4), 1);
        Check.due("retreat", hall.retreat(), true);
        Check.due("verdict", hall.status(4), 0);
        Check.due("another move", hall.proceed(Check.place(hall, "Nc6")), 0);
        GameHall round = Check.hall(Texts.START + " Nf3 Nf6 Ng1 Ng8".repeat(4));
        Check.due("verdict", round.status(4), 4);
        Check.due("greatest count", round.status(12), 5);
        Check.due("retreat", round.retreat(), true);
        Check.due("verdict", round.status(4), 6);
        Check.due("greatest count", round.status(12), 4);
        Check.due("different ones", round.status(11), 4);
        Check.due("the same again", round.proceed(Check.place(round, "Ng8")), 4);
    }
}
