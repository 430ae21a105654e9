/** The edges of SPELLINGS and of the moves of a TEXT: each sentence of the document has a method here. */
public final class EdgesTextTest {
    private static final String PAWN = "4k3/8/8/8/8/8/P7/4K3 w - - 0 1";
    private static final String HOME = "r3k2r/8/8/8/8/8/8/R3K2R w KQkq - 0 1";

    public static void main(String[] args) {
        anyNumberOfMoves();
        castling();
        origins();
        rivals();
        takes();
        pawns();
        signs();
        ended();
        goesOn();
        sixHundred();
        form();
        formOfSigns();
        nothing();
        noSuchMove();
        leastOfOneMove();
        firstMove();
        spellingIsRead();
        Check.end("EdgesTextTest");
    }

    /** A word behind a record, as it is and with the sides changed. */
    private static void word(String record, String word, int fault) {
        Check.fault(record + " " + word, fault, fault == 0 ? -1 : 0);
        String other = Texts.mirrored(record) + " " + Texts.mirroredWord(word);
        Check.fault(other, fault, fault == 0 ? -1 : 0);
    }

    private static void words(String record, int fault, String words) {
        for (String word : words.split(" ")) {
            word(record, word, fault);
        }
    }

    /** "A TEXT is a RECORD, and behind it any number of moves, a blank ahead of each." */
    private static void anyNumberOfMoves() {
        StringBuilder text = new StringBuilder(Texts.START);
        Check.due("no moves", Check.submit(new GameHall(0), text.toString()), 0);
        String[] words = "e4 e5 Nf3 Nc6 Bb5 a6 Ba4 Nf6 0-0 Be7 Re1 b5 Bb3 d6 c3 0-0".split(" ");
        for (int k = 0; k < words.length; k++) {
            text.append(' ').append(words[k]);
            Check.due("moves", Check.submit(new GameHall(0), text.toString()), k + 1);
        }
        // another sign than a blank ahead of the second one makes one word of both
        Check.fault(Texts.START + " e4\te5", 21, 0);
        Check.fault(Texts.START + " e4,e5", 21, 0);
        Check.fault(Texts.START + " e4e5", 21, 0);
    }

    /** "a castling one is 0-0 to the king's side, 0-0-0 to the queen's" and "(those that castle count for this alone)". */
    private static void castling() {
        words(HOME, 0, "0-0 0-0-0");
        words(HOME, 22, "Kg1 Kc1 Keg1 K1c1 Ke1g1 Kxg1");
        words(HOME, 24, "0-0+ 0-0# 0-0-0+ 0-0-0#");
        words("4k3/8/8/8/8/8/8/R3K2R w K - 0 1", 22, "0-0-0 0-0-0+");
        words("4k3/8/8/8/8/8/8/R3K2R w K - 0 1", 0, "0-0");
        words("4k3/8/8/8/8/8/8/R3K2R w Q - 0 1", 22, "0-0 0-0#");
        words("4k3/8/8/8/8/8/8/R3K2R w Q - 0 1", 0, "0-0-0");
        // a king that is beside: its own move, not the castling one, is spelled with K
        words("4k3/8/8/8/8/8/8/4KR2 w - - 0 1", 22, "0-0 0-0-0 Kg1");
        words("4k3/8/8/8/8/8/8/5K1R w - - 0 1", 0, "Kg1");
        words("5k2/8/8/8/8/8/8/4K2R w K - 0 1", 0, "0-0+");
        words("5k2/8/8/8/8/8/8/4K2R w K - 0 1", 24, "0-0 0-0#");
    }

    /** "Nothing if it has none; else its file, if no rival has it; else its rank, if no rival has that; else both." */
    private static void origins() {
        // knights a1, e1 to c2; a1, a5 to b3; then three
        words("7k/8/8/8/8/8/8/N3N2K w - - 0 1", 0, "Nac2 Nec2 Nb3 Nd3");
        words("7k/8/8/8/8/8/8/N3N2K w - - 0 1", 23, "Nc2 N1c2 Na1c2 Nab3 N1b3 Na1b3 Ne1d3");
        words("7k/8/8/N7/8/8/8/N6K w - - 0 1", 0, "N1b3 N5b3 Nc2 Nc6");
        words("7k/8/8/N7/8/8/8/N6K w - - 0 1", 23, "Nb3 Nab3 Na1b3 Na5b3");
        words("7k/8/8/8/8/N7/8/N3N2K w - - 0 1", 0, "Na1c2 N3c2 Nec2");
        words("7k/8/8/8/8/N7/8/N3N2K w - - 0 1", 23, "Nac2 N1c2 Nc2 Na3c2 Ne1c2");
        // a rival on another file and another rank: the file is enough
        words("7k/8/8/8/8/1R6/8/R6K w - - 0 1", 0, "Rab1 Rbb1 Raa3 Rba3");
        words("7k/8/8/8/8/1R6/8/R6K w - - 0 1", 23, "R1b1 R3b1 Rb1 R1a3 R3a3 Ra3 Ra1b1");
        // two rivals, one on its file and none on its rank: the rank is enough
        words("3R4/8/6k1/8/8/8/R7/3R3K w - - 0 1", 0, "R1d2 R8d2 Rad2");
        words("3R4/8/6k1/8/8/8/R7/3R3K w - - 0 1", 23, "Rdd2 Rd2 Rd1d2 Rd8d2 R2d2 Ra2d2");
    }

    /** "LEGAL moves of the same man to the same square from other squares are its RIVALS." */
    private static void rivals() {
        // another man, though of the same reach, is none
        words("7k/8/8/8/8/8/8/R2Q3K w - - 0 1", 0, "Rb1 Rc1 Qb1 Qc1");
        words("7k/8/8/8/8/8/8/R2Q3K w - - 0 1", 23, "Rab1 Qdb1");
        // nor is one that may not move, or that something stands in the way of
        words("4r2k/8/8/8/8/2N1N3/8/4K3 w - - 0 1", 0, "Nd5");
        words("4r2k/8/8/8/8/2N1N3/8/4K3 w - - 0 1", 23, "Ncd5");
        words("7k/8/8/8/8/8/8/R1NR3K w - - 0 1", 0, "Rb1 Rg1");
        words("7k/8/8/8/8/8/8/R1NR3K w - - 0 1", 23, "Rab1 Rdg1");
        // nor a man of the other side
        words("7k/8/8/8/8/8/r7/R6K w - - 0 1", 0, "Rb1 Rxa2");
        // the same man that becomes several things has no rival in itself
        words("8/P6k/8/8/8/8/8/K7 w - - 0 1", 0, "a8Q a8R a8B a8N");
    }

    /** "x if it takes; the square it goes to (file a .. h and rank 1 .. 8)". */
    private static void takes() {
        String record = "7k/8/8/8/n6B/8/1N6/K7 w - - 0 1";
        words(record, 0, "Nxa4 Nd3 Be1");
        words(record, 23, "Na4 Nxd3 Bxe1 Nbxa4 N2xa4");
        words("r6r/8/8/8/2k5/8/8/R2K3R w - - 0 1", 0, "Rxa8 Rxh8");
    }

    /** "A pawn: if the file changes, its file and x; the square; the letter of what it becomes, if it does." */
    private static void pawns() {
        String record = "1n5k/P7/8/1pPp4/8/4p3/3P1P2/K7 w - b6 0 1";
        words(record, 0, "d3 d4 dxe3 fxe3 f3 f4 c6 cxb6 a8Q a8N axb8R+ axb8N");
        words(record, 23, "e3 cxe3 exd4 bxd3 dxd4 b6 axb6 bxc6 b8N bxa8Q cxb8B");
        words(record, 22, "cxd6 d6 a8 axb8 d4Q dxe3Q a7 e4 h8Q");
        words(record, 24, "axb8R axb8Q d4+ a8Q+ axb8N+ axb8R#");
        words(record, 21, "a8K a8P a8q a8QQ a8=Q axb8K aXb8Q xb8Q a7xb8Q ab8Q Pd4 d2d4");
    }

    /** "Behind each + if the other side's king is ATTACKED then, but # instead, if ... no LEGAL move." */
    private static void signs() {
        words("7k/8/8/8/8/8/8/R6K w - - 0 1", 0, "Ra8+ Ra7");
        words("7k/8/8/8/8/8/8/R6K w - - 0 1", 24, "Ra8 Ra8# Ra7+ Ra7#");
        words("7k/R7/8/8/8/8/8/1R5K w - - 0 1", 0, "Rb8# Ra8+");
        words("7k/R7/8/8/8/8/8/1R5K w - - 0 1", 24, "Rb8 Rb8+ Ra8# Ra8");
        // no move and no attack is no #
        words("7k/8/8/6Q1/8/8/8/K7 w - - 0 1", 0, "Qg6");
        words("7k/8/8/6Q1/8/8/8/K7 w - - 0 1", 24, "Qg6# Qg6+");
        // the man that attacks can be taken, the line shut, the king go: +
        words("r6k/6pp/8/8/8/8/8/R6K w - - 0 1", 0, "Rxa8#");
        words("1r5k/r5pp/8/8/8/8/8/R6K b - - 0 1", 0, "Rxa1+");
        words("7k/r5pp/8/8/8/8/8/1R5K w - - 0 1", 24, "Rb8 Rb8+");
        words("7k/5rpp/8/8/8/8/8/1R5K w - - 0 1", 0, "Rb8+");
    }

    /** "20 the game has ended before it": by each of the verdicts 1 to 5. */
    private static void ended() {
        Check.fault("7k/R7/8/8/8/8/8/1R5K w - - 0 1 Rb8# Kg8", 20, 1);
        Check.fault("7k/R7/8/8/8/8/8/1R5K w - - 0 1 Rb8#", 0);
        Check.fault("7k/8/8/6Q1/8/8/8/K7 w - - 0 1 Qg6 Kg8", 20, 1);
        Check.fault("7k/8/8/8/8/8/1p6/K7 w - - 0 1 Kxb2 Kg8", 20, 1);
        Check.fault("7k/8/8/8/8/8/8/K7 w - - 0 1 Kb2", 20, 0);
        Check.fault(Texts.START + " Nf3 Nf6 Ng1 Ng8".repeat(4) + " e4", 20, 16);
        Check.fault("6k1/8/8/8/8/8/8/K6R w - - 149 1 Rh2 Kf7", 20, 1);
        Check.fault("6k1/8/8/8/8/8/8/K6R w - - 150 1 Rh2", 20, 0);
        Check.fault("6k1/8/8/8/8/8/8/K6R w - - 999 1 Rh2", 20, 0);
        Check.fault("6k1/8/8/8/8/8/7p/K6R w - - 999 1 Rxh2", 20, 0);
    }

    /** A draw that can only be claimed (6, 7, 8) does not end the game. */
    private static void goesOn() {
        String round = " Nf3 Nf6 Ng1 Ng8";
        Check.fault(Texts.START + round.repeat(2) + " e4", 0);
        Check.fault(Texts.START + round.repeat(3) + " e4", 0);
        Check.fault("6k1/8/8/8/8/8/8/K6R w - - 100 1 Rh2 Kf7", 0);
        Check.fault("6k1/8/8/8/8/8/8/K6R w - - 148 1 Rh2 Kf7", 0);
        Check.fault("6k1/8/8/8/8/8/8/K6R w - - 100 1" + " Rh2 Kf8 Rh1 Kg8".repeat(2) + " Rh3", 0);
    }

    /** "or 600 moves stand ahead of it". */
    private static void sixHundred() {
        String text = LongGame.text(600);
        String[] words = text.split(" ");
        Check.due("words", words.length, 606);
        Check.fault(text, 0);
        Check.fault(text.substring(0, text.lastIndexOf(' ')), 0);
        Check.fault(LongGame.text(599) + " ??", 21, 599);
        // whatever the word is, also one that is right as a move
        GameHall hall = Check.hall(text);
        for (String word : new String[] {"", "??", "Kd5", Check.unpack(hall.spelling(0)), "e4 e5"}) {
            Check.fault(text + " " + word, 20, 600);
        }
    }

    /** "The FORM: ... a file or not, a rank or not, x or not, a file and a rank": a word that has it is not 21. */
    private static void form() {
        for (String letter : "K Q R B N".split(" ")) {
            for (String origin : new String[] {"", "a", "h", "1", "8", "a1", "h8"}) {
                for (String x : new String[] {"", "x"}) {
                    for (String square : new String[] {"a1", "h8", "a8", "h1"}) {
                        has(letter + origin + x + square, true);
                    }
                }
            }
            for (String wrong : new String[] {"", "a", "1", "x", "xa", "x1", "aa", "11", "a1a", "axa", "a9", "i1", "a0",
                "`1", "ia1", "9a1", "0a1", "1aa1", "aaa1", "11a1", "xxa1", "axxa1", "a1xx1", "xaa1", "x1a1", "a1x",
                "a1xa1x", "a1-a1", "-a1", "a1Q", "xa1Q", "a1a1a1", "A1", "aA1", "Xa1", " a1"}) {
                has(letter + wrong, false);
            }
        }
        for (String letter : new String[] {"", "Q", "R", "B", "N"}) {
            for (String square : new String[] {"a1", "h8", "a8", "h1", "axb1", "hxg8", "axh8"}) {
                has(square + letter, true);
            }
            for (String wrong : new String[] {"i1", "a9", "a0", "`1", "a", "1", "xa1", "x", "ax", "axa", "ixa1", "1xa1",
                "axxa1", "axa9", "axi1", "aa1", "a1a1", "a1xa1", "axa1a", "a-a1", "aXa1", "bxa1x"}) {
                has(wrong + letter, false);
            }
        }
        for (String wrong : new String[] {"a8K", "a8P", "a8n", "a8QR", "axb8K", "P", "Pa1", "Paxb1", "pa1", "ka1", "na1",
            "0", "0-", "-0", "0-0-", "-0-0", "0-0-0-", "0-0-0-0", "00", "000", "0--0", "o-o", "O-O", "O-O-O", "0_0",
            "0-00", "00-0", "0-0-00", "1-0", "1-1", "0-1", "0 -0"}) {
            has(wrong, false);
        }
        has("0-0", true);
        has("0-0-0", true);
    }

    /** Whether a word, with each of the signs behind it, has the form. */
    private static void has(String word, boolean due) {
        for (String sign : new String[] {"", "+", "#"}) {
            GameHall hall = new GameHall(0);
            Check.submit(hall, PAWN + " " + word + sign);
            Check.due("21 for " + word + sign, hall.status(1) == 21, !due);
            Check.due("the move", hall.status(2), 0);
        }
    }

    /** "with + or # or nothing behind it": one of them, and at the end. */
    private static void formOfSigns() {
        for (String word : new String[] {"a3", "Ke2", "0-0", "0-0-0", "axb3", "a8Q", "Qa1xb2"}) {
            for (String sign : new String[] {"++", "+#", "#+", "##", "+-", "!", "?", "=", "+x", "-+"}) {
                Check.fault(PAWN + " " + word + sign, 21, 0);
            }
            Check.fault(PAWN + " +" + word, 21, 0);
            Check.fault(PAWN + " #" + word, 21, 0);
            Check.fault(PAWN + " " + word.charAt(0) + "+" + word.substring(1), 21, 0);
        }
        Check.fault(PAWN + " +", 21, 0);
        Check.fault(PAWN + " #", 21, 0);
    }

    /** "21 ... (also if it is nothing)". */
    private static void nothing() {
        Check.fault(PAWN + " ", 21, 0);
        Check.fault(PAWN + "  ", 21, 0);
        Check.fault(PAWN + "  a3", 21, 0);
        Check.fault(PAWN + " a3 ", 21, 1);
        Check.fault(PAWN + " a3  Kd7", 21, 1);
        Check.fault(PAWN + " a3 Kd7 ", 21, 2);
    }

    /** "22 no LEGAL move is of that man, to that square, with that letter behind it (or none)". */
    private static void noSuchMove() {
        String record = "7k/P7/8/8/4r3/8/3N4/R3K3 w Q - 0 1";
        // that man goes elsewhere, another man goes there, the man may not go there now
        words(record, 22, "Qd2 Bb2 Ka8 Rb4 Re4 Rxe4 Kd1xe4 Nd4 Ke2 h3 a8 a6 a7 a5 axb8Q axb8 0-0 0-0-0");
        // the king is attacked: what does not help is no LEGAL move
        words("4r2k/8/8/8/8/8/P7/4K3 w - - 0 1", 22, "a3 a4 Ke2");
        words("4r2k/8/8/8/8/8/P7/4K3 w - - 0 1", 0, "Kd1 Kd2 Kf1 Kf2");
        // the letter counts: with it and without
        words("8/P6k/8/8/8/8/8/K7 w - - 0 1", 22, "a8 a8+ a8#");
        words("8/8/P6k/8/8/8/8/K7 w - - 0 1", 22, "a7Q a7N a8Q a6N");
    }

    /** "(... of those of one move, the least number that holds)". */
    private static void leastOfOneMove() {
        // 22 before 23 and 24, 23 before 24
        words(Texts.START, 22, "Nd2+ Nxd2# e5+ Ngf4# exf6");
        words(Texts.START, 23, "Ngf3+ Nxf3# exe4+ Ng1f3# exd3+");
        words(Texts.START, 24, "Nf3+ Nf3# e4+ e4#");
        // 21 before all, 20 before 21
        words(Texts.START, 21, "Nf3++ Ngf3+# e4e4 Nd2Q");
        Check.fault("7k/8/8/8/8/8/8/K7 w - - 0 1 ??", 20, 0);
        Check.fault("7k/8/8/8/8/8/8/K7 w - - 0 1 ", 20, 0);
        Check.fault("7k/8/8/8/8/8/8/K7 w - - 0 1 Qa5", 20, 0);
        Check.fault("7k/8/8/8/8/8/8/K7 w - - 0 1 Kab1", 20, 0);
        Check.fault("7k/8/8/8/8/8/8/K7 w - - 0 1 Kb1+", 20, 0);
    }

    /** "the first fault refuses it", whatever comes behind; "the number of the move with the fault, from 0 on". */
    private static void firstMove() {
        String[] words = {"e4", "e5", "Nf3", "Nc6"};
        int[] faults = {21, 22, 23, 24};
        String[] wrong = {"??", "Ka5", "", ""};
        for (int at = 0; at < words.length; at++) {
            for (int kind = 0; kind < 4; kind++) {
                String word = kind < 2 ? wrong[kind] : kind == 2 ? misspelled(words[at]) : words[at] + "+";
                StringBuilder text = new StringBuilder(Texts.START);
                for (int k = 0; k < words.length; k++) {
                    text.append(' ').append(k == at ? word : words[k]);
                }
                Check.fault(text + " ?? Ka5", faults[kind], at);
            }
        }
    }

    private static String misspelled(String word) {
        return word.length() == 2 ? "exe" + word.charAt(1) : word.charAt(0) + "x" + word.substring(1);
    }

    /** Every spelling of some positions is read as just that move. */
    private static void spellingIsRead() {
        for (String text : new String[] {Texts.MIXED, Texts.PINS, Texts.CHECKED, Texts.BECOMING, HOME,
            "7k/8/8/8/8/N7/8/N3N2K w - - 0 1"}) {
            GameHall hall = Check.hall(text);
            int many = hall.legalMany();
            for (int k = 0; k < many; k++) {
                String word = Check.unpack(hall.spelling(k));
                GameHall read = Check.hall(text + " " + word);
                Check.due("the move that " + word + " led by", read.historyOf(1, 3), hall.legalMove(k));
            }
        }
    }
}
