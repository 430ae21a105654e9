/** Records that several tests use. */
final class Texts {
    static final String START = "rnbqkbnr/pppppppp/8/8/8/8/PPPPPPPP/RNBQKBNR w KQkq - 0 1";
    /** Positions with many odd moves, whose numbers of lines are widely known. */
    static final String MIXED = "r3k2r/p1ppqpb1/bn2pnp1/3PN3/1p2P3/2N2Q1p/PPPBBPPP/R3K2R w KQkq - 0 1";
    static final String PINS = "8/2p5/3p4/KP5r/1R3p1k/8/4P1P1/8 w - - 0 1";
    static final String CHECKED = "r3k2r/Pppp1ppp/1b3nbN/nP6/BBP1P3/q4N2/Pp1P2PP/R2Q1RK1 w kq - 0 1";
    static final String BECOMING = "rnbq1k1r/pp1Pbppp/2p5/8/2B5/8/PPP1NnPP/RNBQK2R w KQ - 1 8";
    static final String EVEN = "r4rk1/1pp1qppp/p1np1n2/2b1p1B1/2B1P1b1/P1NP1N2/1PP1QPPP/R4RK1 w - - 0 10";
    /** The most legal moves that a position is known to have: 218. */
    static final String CROWD = "R6R/3Q4/1Q4Q1/4Q3/2Q4Q/Q4Q2/pp1Q4/kBNN1KB1 w - - 0 1";

    private Texts() {
    }

    /** A right text with the sides changed: white's men are black's, and the board is turned over. */
    static String mirrored(String text) {
        String[] words = text.split(" ");
        String[] ranks = words[0].split("/");
        StringBuilder out = new StringBuilder();
        for (int k = 7; k >= 0; k--) {
            out.append(otherCase(ranks[k])).append(k > 0 ? "/" : " ");
        }
        out.append(words[1].equals("w") ? "b " : "w ");
        String rights = otherCase(words[2]);
        for (char sign : "KQkq-".toCharArray()) {
            out.append(rights.indexOf(sign) >= 0 ? "" + sign : "");
        }
        out.append(' ').append(words[3].replace('3', '~').replace('6', '3').replace('~', '6'));
        out.append(' ').append(words[4]).append(' ').append(words[5]);
        for (int k = 6; k < words.length; k++) {
            out.append(' ').append(mirroredWord(words[k]));
        }
        return out.toString();
    }

    /** A spelling with its ranks counted from the other side. */
    static String mirroredWord(String word) {
        StringBuilder out = new StringBuilder();
        for (char sign : word.toCharArray()) {
            out.append(sign >= '1' && sign <= '8' ? (char) ('1' + '8' - sign) : sign);
        }
        return out.toString();
    }

    private static String otherCase(String text) {
        StringBuilder out = new StringBuilder();
        for (char sign : text.toCharArray()) {
            boolean upper = Character.isUpperCase(sign);
            out.append(upper ? Character.toLowerCase(sign) : Character.toUpperCase(sign));
        }
        return out.toString();
    }
}
