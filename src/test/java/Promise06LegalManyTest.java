/** How many moves the LIST has. */
public final class Promise06LegalManyTest {
    public static void main(String[] args) {
        Check.due("without a game", new GameHall(0).legalMany(), 0);
        many(Texts.START, 20);
        many(Texts.MIXED, 48);
        many(Texts.PINS, 14);
        many(Texts.CHECKED, 6);
        many(Texts.BECOMING, 44);
        many(Texts.EVEN, 46);
        many(Texts.CROWD, 218);
        many(Texts.START + " f3 e5 g4 Qh4#", 0);
        many("7k/8/6Q1/8/8/8/8/K7 b - - 0 1", 0);
        // a game that has ended has a LIST all the same
        many("7k/8/8/8/8/8/8/K7 w - - 0 1", 3);
        many("7k/8/8/8/8/8/8/K7 w - - 150 1", 3);
        many("7k/8/8/8/8/8/8/K6B w - - 0 1", 10);
        many(Texts.START + " Nf3 Nf6 Ng1 Ng8".repeat(4), 20);
        castlings();
        passing();
        pins();
        pawns();
        Check.end("Promise06LegalManyTest");
    }

    private static void many(String text, int due) {
        Check.due("legalMany of " + text, Check.hall(text).legalMany(), due);
    }

    private static void castlings() {
        many("4k3/8/8/8/8/8/8/R3K2R w KQ - 0 1", 26);
        many("4k3/8/8/8/8/8/8/R3K2R w Q - 0 1", 25);
        many("4k3/8/8/8/8/8/8/R3K2R w - - 0 1", 24);
        // b1 attacked hinders nothing; a1 and h1 neither; c1, d1, e1, f1, g1 do
        many("1r2k3/8/8/8/8/8/8/R3K2R w KQ - 0 1", 26);
        many("2r1k3/8/8/8/8/8/8/R3K2R w KQ - 0 1", 25);
        many("4k1r1/8/8/8/8/8/8/R3K2R w KQ - 0 1", 25);
        many("4k3/8/8/4r3/8/8/8/R3K2R w KQ - 0 1", 4);
        many("3rk3/8/8/8/8/8/8/R3K2R w KQ - 0 1", 23);
        many("4kr2/8/8/8/8/8/8/R3K2R w KQ - 0 1", 23);
        many("r3k2r/8/8/8/8/8/8/4K3 b kq - 0 1", 26);
    }

    private static void passing() {
        many("4k3/8/8/3pP3/8/8/8/4K3 w - d6 0 1", 7);
        many("4k3/8/8/3pP3/8/8/8/4K3 w - - 0 1", 6);
        many("4k3/8/8/2PpP3/8/8/8/4K3 w - d6 0 1", 9);
        // both pawns leave the rank of the king
        many("8/8/8/K2pP2r/8/8/8/4k3 w - d6 0 1", 6);
        // the pawn taken has hidden the king, askew, from a bishop; then from nothing
        many("8/5K2/8/3pP3/8/8/b7/7k w - d6 0 1", 9);
        many("8/5K2/8/3pP3/8/8/n7/7k w - d6 0 1", 10);
        many("7K/B7/8/8/3Pp3/8/5k2/8 b - d3 0 1", 9);
        many("7K/N7/8/8/3Pp3/8/5k2/8 b - d3 0 1", 10);
        // taking in passing is the answer to the check of the pawn
        many("7k/8/8/3pP3/4K3/8/8/8 w - d6 0 1", 8);
        // a PASSANT that no pawn can use
        many("4k3/8/8/3p4/8/8/8/4K3 w - d6 0 1", 5);
    }

    private static void pins() {
        many("4r2k/8/8/8/8/8/4R3/4K3 w - - 0 1", 10);
        many("4r2k/8/8/8/8/8/4N3/4K3 w - - 0 1", 4);
        many("7k/8/8/8/7b/8/5B2/4K3 w - - 0 1", 6);
        many("4r2k/8/8/8/7b/8/8/4K3 w - - 0 1", 3);
        // the king does not hide behind itself
        many("7k/8/8/8/r3K3/8/8/8 w - - 0 1", 6);
    }

    private static void pawns() {
        many("7k/8/8/8/8/8/P7/K7 w - - 0 1", 4);
        many("7k/8/8/8/8/p7/P7/K7 w - - 0 1", 1);
        many("7k/8/8/8/n7/8/P7/K7 w - - 0 1", 2);
        many("7k/8/8/8/8/P7/8/K7 w - - 0 1", 4);
        many("7k/P7/8/8/8/8/8/K7 w - - 0 1", 7);
        many("1r5k/P7/8/8/8/8/8/K7 w - - 0 1", 9);
        many("7k/8/8/8/8/8/p7/1N5K b - - 0 1", 11);
    }
}
