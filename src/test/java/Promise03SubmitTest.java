/** Texts become games, or are refused by the number and the place of their first fault. */
public final class Promise03SubmitTest {
    private static final String KINGS = "4k3/8/8/8/8/8/8/4K3";

    public static void main(String[] args) {
        lengths();
        bytesBehind();
        rightTexts();
        fields();
        menField();
        rightness();
        passants();
        moves();
        bytesInWords();
        spellings();
        castling();
        becoming();
        endedGames();
        sixHundred();
        refusedChangesNothing();
        Check.end("Promise03SubmitTest");
    }

    private static void fault(String text, int fault, int move) {
        Check.fault(text, fault, move);
    }

    private static void fault(String text, int fault) {
        Check.fault(text, fault, -1);
    }

    private static void lengths() {
        GameHall hall = new GameHall(0);
        Class<IllegalArgumentException> argument = IllegalArgumentException.class;
        Check.dueThrow("submit 0", argument, () -> hall.submit(0));
        Check.dueThrow("submit 21", argument, () -> hall.submit(21));
        Check.dueThrow("submit -1", argument, () -> hall.submit(-1));
        Check.dueThrow("submit least", argument, () -> hall.submit(Integer.MIN_VALUE));
        Check.dueThrow("submit most", argument, () -> hall.submit(Integer.MAX_VALUE));
        Check.due("no text was read", hall.status(1), 0);
        for (int n = 1; n <= 20; n++) {
            Check.due("submit " + n + " of an empty tape", hall.submit(n), -1);
            Check.due("fault", hall.status(1), 1);
        }
        hall.tape(1, 2, 3, 4, 5);
        Check.dueThrow("submit 0", argument, () -> hall.submit(0));
        Check.due("the tape stays", hall.status(0), 20);
        for (String text : new String[] {"8/8/8/8/8/8/k1K5/8 w - - 0 1", "8/8/8/8/8/8/k1K5/8 w - - 0 12",
            "8/8/8/8/8/8/k1K5/8 w - - 0 123", "8/8/8/8/8/8/k1K5/8 w - - 0 1234", "8/8/8/8/8/8/k1K5/8 w - - 10 1234",
            "8/8/8/8/8/8/k1K5/8 w - - 100 1234", "8/8/8/8/8/8/k1K4N/8 w - - 100 1234",
            "8/8/8/8/8/8/k1K4N/B7 w - - 100 1234", "8/8/8/8/8/8/k1K4N/BN6 w - - 100 1234",
            "8/8/8/8/8/8/k1K4N/BN5P w - - 100 1234"}) {
            GameHall one = new GameHall(0);
            Check.submit(one, text);
            boolean pawn = text.contains("P");
            Check.due("fault of " + text, one.status(1), pawn ? 8 : 0);
            Check.due("record", Check.record(one), pawn ? "" : text);
        }
    }

    /** The bytes behind the text are not read, whatever they are. */
    private static void bytesBehind() {
        String text = KINGS + " w - - 0 1";
        String[] behind = {"2", " ", " e4", "x", "/"};
        for (String more : behind) {
            tapeBoth(text, more, 0, 0);
            tapeBoth(text + " Ke", more, 20, -1);
            tapeBoth("4k3/8/8/8/8/8/P7/4K3 w - - 0 1 a", more.replace("x", "3"), 21, -1);
            tapeBoth("4k3/8/8/8/8/8/P7/4K3 w - - 0 1 a3", more.replace("x", "+"), 0, 1);
            tapeBoth("4k3/8/8/8/8/8/P7/4K3 w - - ", more.replace("x", "0 1"), 5, -1);
        }
    }

    private static void tapeBoth(String text, String more, int fault, int due) {
        GameHall hall = new GameHall(0);
        for (int at = 0; at < text.length(); at += 20) {
            int[] n = Check.numbers(text + more + more + more, at);
            hall.tape(n[0], n[1], n[2], n[3], n[4]);
        }
        Check.due("submit of " + text + " with " + more + " behind", hall.submit(Check.tail(text)), due);
        Check.due("fault of " + text + " with " + more + " behind", hall.status(1), fault);
        if (due == 0) {
            Check.due("record with " + more + " behind", Check.record(hall), text);
        }
    }

    private static void rightTexts() {
        fault(Texts.START, 0);
        fault(Texts.MIXED, 0);
        fault(Texts.CROWD, 0);
        fault(Texts.START + " e4 e5 Nf3 Nc6 Bb5 a6 Bxc6 dxc6 0-0 Bg4 h3 h5 hxg4 hxg4", 0);
        fault(Texts.START + " f3 e5 g4 Qh4#", 0);
        fault(Texts.START + " e4 e5 Bc4 Nc6 Qh5 Nf6 Qxf7#", 0);
        fault(Texts.START + " e4 Nf6 e5 d5 exd6 Nd5 dxc7 Nb4 cxb8Q Nxc2+ Ke2", 0);
    }

    private static void fields() {
        fault("", 1);
        fault(" ", 1);
        fault(KINGS, 1);
        fault(" " + KINGS + " w - - 0 1", 1);
        fault(KINGS + " ", 2);
        fault(KINGS + "  w - - 0 1", 2);
        fault(KINGS + " w", 2);
        fault(KINGS + " W - - 0 1", 2);
        fault(KINGS + " wb - - 0 1", 2);
        fault(KINGS + " w  - - 0 1", 3);
        fault(KINGS + " w -", 3);
        fault(KINGS + " w x - 0 1", 3);
        fault(KINGS + " w -- - 0 1", 3);
        fault(KINGS + " w -K - 0 1", 3);
        fault("r3k2r/8/8/8/8/8/8/R3K2R w QK - 0 1", 3);
        fault("r3k2r/8/8/8/8/8/8/R3K2R w KK - 0 1", 3);
        fault("r3k2r/8/8/8/8/8/8/R3K2R w kK - 0 1", 3);
        for (int rights = 1; rights < 16; rights++) {
            String some = "";
            for (int k = 0; k < 4; k++) {
                some += (rights >> k & 1) != 0 ? "KQkq".substring(k, k + 1) : "";
            }
            fault("r3k2r/8/8/8/8/8/8/R3K2R w " + some + " - 0 1", 0);
        }
        fault(KINGS + " w -  0 1", 4);
        fault(KINGS + " w - -", 4);
        fault(KINGS + " w - e3 0 1", 4);
        fault(KINGS + " b - e6 0 1", 4);
        fault(KINGS + " w - i6 0 1", 4);
        fault(KINGS + " w - e 0 1", 4);
        fault(KINGS + " w - 6 0 1", 4);
        fault(KINGS + " w - e66 0 1", 4);
        fault(KINGS + " w - -6 0 1", 4);
        fault(KINGS + " w - -  1", 5);
        fault(KINGS + " w - - 0", 5);
        fault(KINGS + " w - - 00 1", 5);
        fault(KINGS + " w - - 01 1", 5);
        fault(KINGS + " w - - 1000 1", 5);
        fault(KINGS + " w - - 9999999999999 1", 5);
        fault(KINGS + " w - - -1 1", 5);
        fault(KINGS + " w - - x 1", 5);
        fault(KINGS + " w - - 999 1", 0);
        fault(KINGS + " w - - 0 ", 6);
        fault(KINGS + " w - - 0 0", 6);
        fault(KINGS + " w - - 0 01", 6);
        fault(KINGS + " w - - 0 10000", 6);
        fault(KINGS + " w - - 0 4294967297", 6);
        fault(KINGS + " w - - 0 1x", 6);
        fault(KINGS + " w - - 0 1\t", 6);
        fault(KINGS + " w - - 0 9999", 0);
    }

    private static void menField() {
        fault("4k3/8/8/8/8/8/4K3 w - - 0 1", 1);
        fault("4k3/8/8/8/8/8/8/4K3/ w - - 0 1", 1);
        fault("4k3/8/8/8/8/8/8/4K3/8 w - - 0 1", 1);
        fault("4k3/8/8/8/8/8/8/4K2 w - - 0 1", 1);
        fault("4k3/8/8/8/8/8/8/4K4 w - - 0 1", 1);
        fault("4k3/8/8/8/8/8/44/4K3 w - - 0 1", 1);
        fault("4k21/8/8/8/8/8/8/4K3 w - - 0 1", 1);
        fault("4k3/8/8/8/8/8/8/4K12 w - - 0 1", 1);
        fault("4k3/8/8/8/8/8/9/4K3 w - - 0 1", 1);
        fault("4k3/8/8/8/8/8/0P7/4K3 w - - 0 1", 1);
        fault("4k3/8/8/8//8/8/4K3 w - - 0 1", 1);
        fault("4k3/8/8/8/8/8/8/4K2X w - - 0 1", 1);
        fault("4k3/ppppppppp/8/8/8/8/8/4K3 w - - 0 1", 1);
        fault("4k3/pppppppp/8/8/8/8/8/4K3 w - - 0 1", 0);
        // a fault of a field comes before those of the position
        fault("8/8/8/8/8/8/8/8 w - - 0 0", 6);
        fault("8/8/8/8/8/8/8/8 x - - 0 0", 2);
    }

    private static void rightness() {
        fault("8/8/8/8/8/8/8/8 w - - 0 1", 7);
        fault("4k3/8/8/8/8/8/8/8 w - - 0 1", 7);
        fault("8/8/8/8/8/8/8/4K3 w - - 0 1", 7);
        fault("4k2k/8/8/8/8/8/8/4K3 w - - 0 1", 7);
        fault("4k3/8/8/8/8/8/8/K3K3 w - - 0 1", 7);
        fault("4k2P/8/8/8/8/8/8/K3K3 w - - 0 1", 7);
        fault("4k2P/8/8/8/8/8/8/4K3 w - - 0 1", 8);
        fault("4k3/8/8/8/8/8/8/4K2p w - - 0 1", 8);
        fault("4k2p/8/8/8/8/8/8/4K3 w - - 0 1", 8);
        fault("4k3/8/8/8/8/8/PPPPPPPP/3PK3 w - - 0 1", 8);
        fault("4k3/8/8/8/8/P7/PPPPPPPP/4K3 w - - 0 1", 8);
        fault("4k3/8/8/8/8/7N/PPPPPPPP/1N2K1N1 w - - 0 1", 8);
        fault("4k3/8/8/8/8/7N/PPPPPPP1/1N2K1N1 w - - 0 1", 0);
        fault("4k3/8/8/8/8/6NB/PPPPPPP1/1NB1KBN1 w - - 0 1", 8);
        fault("4k3/8/8/8/8/6NB/PPPPPP2/1NB1KBN1 w - - 0 1", 0);
        fault("4k3/8/8/8/8/8/PPPPPPPP/QQ2K3 w - - 0 1", 8);
        fault("4k3/8/8/8/8/8/PPPPPPP1/QQ2K3 w - - 0 1", 0);
        fault("rrr1k3/pppppppp/8/8/8/8/8/4K3 w - - 0 1", 8);
        fault("rrr1k3/ppppppp1/8/8/8/8/8/4K3 w - - 0 1", 0);
        fault("4k3/8/8/8/8/QQQQQ3/QQQQ4/1N2K3 b - - 0 1", 0);
        fault("4k3/8/8/8/8/QQQQQ3/QQQQQ3/1N2K3 b - - 0 1", 8);
        fault("4k3/8/8/8/8/8/8/R3K2R w K - 0 1", 0);
        fault("4k3/8/8/8/8/8/8/R3K3 w K - 0 1", 9);
        fault("4k3/8/8/8/8/8/8/4K2R w Q - 0 1", 9);
        fault("4k3/8/8/8/8/8/8/R2K3R w Q - 0 1", 9);
        fault("r3k3/8/8/8/8/8/8/4K3 w k - 0 1", 9);
        fault("4k2r/8/8/8/8/8/8/4K3 w q - 0 1", 9);
        fault("4k2R/8/8/8/8/8/8/4K3 b k - 0 1", 9);
        fault("4k3/8/8/8/8/8/8/4K2r b K - 0 1", 9);
        fault("3k3r/8/8/8/8/8/8/4K3 b k - 0 1", 9);
        // the king of the side that is not to move: each kind of attacker, and what stands between
        fault("4k3/8/8/8/8/8/8/4KR2 w - - 0 1", 0);
        fault("4k3/8/8/8/8/4R3/8/4K3 w - - 0 1", 11);
        fault("4k3/8/8/8/8/4R3/8/4K3 b - - 0 1", 0);
        fault("4k3/4n3/8/8/8/4R3/8/4K3 w - - 0 1", 0);
        fault("4k3/8/8/7Q/8/8/8/4K3 w - - 0 1", 11);
        fault("4k3/8/8/1B6/8/8/8/4K3 w - - 0 1", 11);
        fault("4k3/8/5N2/8/8/8/8/4K3 w - - 0 1", 11);
        fault("4k3/3P4/8/8/8/8/8/4K3 w - - 0 1", 11);
        fault("4k3/4P3/8/8/8/8/8/4K3 w - - 0 1", 0);
        fault("8/8/8/8/8/8/4k3/4K3 w - - 0 1", 11);
        fault("4k3/8/8/8/8/8/3p4/4K3 b - - 0 1", 11);
        fault("4k3/8/8/8/8/8/3p4/4K3 w - - 0 1", 0);
        // of several the least
        fault("4k2P/8/8/8/8/4R3/8/4K3 w k e6 0 1", 8);
        fault("4k3/8/8/8/8/4R3/8/4K3 w k e6 0 1", 9);
        fault("4k3/8/8/8/8/4R3/8/4K3 w - e6 0 1", 10);
    }

    private static void passants() {
        fault("4k3/8/8/4p3/8/8/8/4K3 w - e6 0 1", 0);
        fault("4k3/8/8/4p3/8/8/8/4K3 w - e6 1 1", 10);
        fault("4k3/8/8/4P3/8/8/8/4K3 w - e6 0 1", 10);
        fault("4k3/8/8/3p4/8/8/8/4K3 w - e6 0 1", 10);
        fault("4k3/8/4n3/4p3/8/8/8/4K3 w - e6 0 1", 10);
        fault("4k3/4n3/8/4p3/8/8/8/4K3 w - e6 0 1", 10);
        fault("4k3/8/8/8/4P3/8/8/4K3 b - e3 0 1", 0);
        fault("4k3/8/8/8/4p3/8/8/4K3 b - e3 0 1", 10);
        fault("4k3/8/8/8/4P3/4N3/8/4K3 b - e3 0 1", 10);
        fault("4k3/8/8/8/4P3/8/4N3/4K3 b - e3 0 1", 10);
        fault("4k3/8/8/8/4P3/8/8/4K3 b - e3 5 1", 10);
        fault("4k3/8/8/p6p/8/8/8/4K3 w - a6 0 1", 0);
        fault("4k3/8/8/p6p/8/8/8/4K3 w - h6 0 1", 0);
    }

    private static void moves() {
        fault(Texts.START + " ", 21, 0);
        fault(Texts.START + " e4 ", 21, 1);
        fault(Texts.START + "  e4", 21, 0);
        fault(Texts.START + " e4  e5", 21, 1);
        for (String word : new String[] {"e", "4", "e9", "i4", "E4", "e4e", "e44", "ee4", "xe4", "e4x", "e4++", "e4+#",
            "e4=Q", "e8K", "e8P", "e8q", "0-0-", "0-", "0", "O-O", "0-0-0-0", "00", "+", "#", "K", "Ke", "Ke9",
            "Pe4", "Nf3N", "Nf3Q", "Nxxf3", "Ng11f3", "Ngg1f3", "N1gf3", "Ngxf3x", "e2e4", "e2-e4", "exd", "exd4d",
            "Ng1xf3++", "nf3", "Nf3~", "Nf3\n", "e4.", "1.e4", "Qa1xb2+#", "aaaaaaaaaaaaaaaaaaaaaaa"}) {
            fault(Texts.START + " " + word, 21, 0);
        }
        for (String word : new String[] {"e5", "exd5", "e8Q", "e4Q", "Nf4", "Nd2", "Ke2", "0-0", "0-0-0",
            "0-0+", "Qa1xb2#", "Nb1xd2", "Bb5+", "exd3N#", "Ra3", "K1xe2"}) {
            fault(Texts.START + " " + word, 22, 0);
        }
        for (String word : new String[] {"exd3", "Ngf3", "N1f3", "Ng1f3", "Nxf3", "Ngxf3", "dxe4", "exe4",
            "Ng1xf3+", "Nbf3"}) {
            fault(Texts.START + " " + word, 23, 0);
        }
        for (String word : new String[] {"e4+", "e4#", "Nf3+", "Nf3#"}) {
            fault(Texts.START + " " + word, 24, 0);
        }
        fault(Texts.START + " e4 e5 Bc4 Nc6 Qh5 Nf6 Qxf7", 24, 6);
        fault(Texts.START + " e4 e5 Bc4 Nc6 Qh5 Nf6 Qxf7+", 24, 6);
        fault(Texts.START + " e4 e5 Bc4 Nc6 Qh5 Nf6 Qf7#", 23, 6);
        fault(Texts.START + " e4 f5 Qh5", 24, 2);
        fault(Texts.START + " e4 f5 Qh5#", 24, 2);
        fault(Texts.START + " e4 f5 Qh5+ a6", 22, 3);
        fault(Texts.START + " e4 f5 Qh5+ g6 Qxg6+ hxg6", 0);
    }

    /** Words of the form, with bytes 0 (or others that no spelling has) at their beginning, inside and at their end. */
    private static void bytesInWords() {
        String castling = "r3k2r/8/8/8/8/8/8/R3K2R w KQkq - 0 1";
        String checking = "5k2/8/8/8/8/8/8/4K2R w K - 0 1";
        String becoming = "1r6/P6k/8/8/8/8/8/K7 w - - 0 1";
        odd(castling, "0-0", 0);
        odd(castling, "0-0-0", 0);
        odd(castling, "0-0+", 24);
        odd(castling, "0-0-0#", 24);
        odd(checking, "0-0+", 0);
        odd(checking, "0-0-0", 22);
        odd(castling, "Kd2", 0);
        odd(castling, "Rxa8+", 0);
        odd(castling, "Ra1xa8#", 23);
        odd(Texts.START, "e4", 0);
        odd(Texts.START, "exd3", 23);
        odd(becoming, "axb8N", 0);
        odd(becoming, "a8Q", 0);
    }

    /** The word alone has a fault of its own, or none; with odd bytes it has not the form. */
    private static void odd(String record, String word, int alone) {
        fault(record + " " + word, alone, alone == 0 ? -1 : 0);
        String[] some = {"\0", "\0\0", "\0\0\0", "\0\0\0\0\0", "\0\0\0\0\0\0\0\0", "\1", "\t", "\n", "\u0080", "\u00ff"};
        for (String bytes : some) {
            for (int at = 0; at <= word.length(); at++) {
                fault(record + " " + word.substring(0, at) + bytes + word.substring(at), 21, 0);
            }
        }
        fault(record + " \0", 21, 0);
        fault(record + " \0 " + word, 21, 0);
        fault(record + "\0 " + word, 6);
    }

    private static void spellings() {
        // rooks on a file, on a rank, and both
        String rooks = "4k3/R7/8/8/8/R3R3/8/4K3 w - - 0 1";
        fault(rooks.replace(" w", " b") + " Kf8", 0);
        fault("7k/R7/8/8/8/R3R3/8/4K3 w - - 0 1 R7a5", 0);
        fault("7k/R7/8/8/8/R3R3/8/4K3 w - - 0 1 R3a5", 0);
        fault("7k/R7/8/8/8/R3R3/8/4K3 w - - 0 1 Raa5", 23, 0);
        fault("7k/R7/8/8/8/R3R3/8/4K3 w - - 0 1 Ra5", 23, 0);
        fault("7k/R7/8/8/8/R3R3/8/4K3 w - - 0 1 Ra3a5", 23, 0);
        fault("7k/R7/8/8/8/R3R3/8/4K3 w - - 0 1 Rac3", 0);
        fault("7k/R7/8/8/8/R3R3/8/4K3 w - - 0 1 Rec3", 0);
        fault("7k/R7/8/8/8/R3R3/8/4K3 w - - 0 1 Rc3", 23, 0);
        // queens on a4, d4, a1: a4 shares its file with one and its rank with the other
        fault("6k1/8/8/8/Q2Q4/8/8/Q5K1 w - - 0 1 Qa4d1", 0);
        fault("6k1/8/8/8/Q2Q4/8/8/Q5K1 w - - 0 1 Qad1", 23, 0);
        fault("6k1/8/8/8/Q2Q4/8/8/Q5K1 w - - 0 1 Q4d1", 23, 0);
        fault("6k1/8/8/8/Q2Q4/8/8/Q5K1 w - - 0 1 Q1d1", 0);
        fault("6k1/8/8/8/Q2Q4/8/8/Q5K1 w - - 0 1 Qdd1", 0);
        fault("6k1/8/8/8/Q2Q4/8/8/Q5K1 w - - 0 1 Qd4d1", 23, 0);
        fault("6k1/8/8/8/Q2Q4/8/8/Q5K1 w - - 0 1 Q1a3", 0);
        // a pinned rival is none
        fault("4r2k/8/8/8/8/2N1N3/8/4K3 w - - 0 1 Nd5", 0);
        fault("4r2k/8/8/8/8/2N1N3/8/4K3 w - - 0 1 Ncd5", 23, 0);
        fault("5r1k/8/8/8/8/2N1N3/8/4K3 w - - 0 1 Nd5", 23, 0);
        fault("5r1k/8/8/8/8/2N1N3/8/4K3 w - - 0 1 Ncd5", 0);
        // pawns: the file only when it changes
        fault("4k3/8/8/8/3p4/4P3/8/4K3 w - - 0 1 exd4", 0);
        fault("4k3/8/8/8/3p4/4P3/8/4K3 w - - 0 1 d4", 23, 0);
        fault("4k3/8/8/8/3p4/4P3/8/4K3 w - - 0 1 cxd4", 23, 0);
        fault("4k3/8/8/8/3p4/4P3/8/4K3 w - - 0 1 e4", 0);
        fault("4k3/8/8/3pP3/8/8/8/4K3 w - d6 0 1 exd6", 0);
        fault("4k3/8/8/3pP3/8/8/8/4K3 w - d6 0 1 d6", 23, 0);
        fault("4k3/8/8/3pP3/8/8/8/4K3 w - - 0 1 exd6", 22, 0);
        fault("4k3/8/8/3pP3/8/8/8/4K3 w - d6 0 1 Kd2 Kd8 exd6", 22, 2);
    }

    private static void castling() {
        String both = "r3k2r/8/8/8/8/8/8/R3K2R w KQkq - 0 1";
        fault(both + " 0-0 0-0", 22, 1);
        fault(both + " 0-0 0-0-0", 0);
        fault(both + " 0-0-0 0-0", 0);
        fault(both + " 0-0-0 0-0-0", 22, 1);
        // "those that castle count for this alone": the king's square is no spelling for them
        fault(both + " Kg1", 22, 0);
        fault(both + " Kc1", 22, 0);
        fault(both + " 0-0+", 24, 0);
        fault("5k2/8/8/8/8/8/8/4K2R w K - 0 1 0-0", 24, 0);
        fault("5k2/8/8/8/8/8/8/4K2R w K - 0 1 0-0+", 0);
        fault("5k2/8/8/8/8/8/8/4K2R w - - 0 1 0-0+", 22, 0);
        fault("5k2/8/8/8/8/8/8/4K1NR w K - 0 1 0-0", 22, 0);
        fault("1r2k3/8/8/8/8/8/8/R3K3 w Q - 0 1 0-0-0", 0);
        fault("2r1k3/8/8/8/8/8/8/R3K3 w Q - 0 1 0-0-0", 22, 0);
        fault("3rk3/8/8/8/8/8/8/R3K3 w Q - 0 1 0-0-0", 22, 0);
        fault("4r2k/8/8/8/8/8/8/R3K3 w Q - 0 1 0-0-0", 22, 0);
        fault("7k/8/8/8/8/8/8/RN2K3 w Q - 0 1 0-0-0", 22, 0);
        fault("r3k3/8/8/8/8/8/8/R3K3 w Q - 0 1 Kd1 Kd8 Ke1 Ke8 0-0-0", 22, 4);
        fault("r3k3/8/8/8/8/8/8/R3K3 w Q - 0 1 Rb1 Kd8 Ra1 Ke8 0-0-0", 22, 4);
        fault("4k2r/8/8/8/8/8/8/R3K2R b KQk - 0 1 Rxh1+ Kf2", 0);
        fault("4k2r/8/8/8/8/8/8/R3K2R b KQk - 0 1 Rxh1+ Kf2 Rxa1 Kg2 Ra8 Kf1 0-0", 22, 6);
    }

    private static void becoming() {
        String pawn = "8/P6k/8/8/8/8/8/K7 w - - 0 1";
        for (String letter : new String[] {"Q", "R", "B", "N"}) {
            fault(pawn + " a8" + letter, 0);
            fault(pawn + " a8" + letter + "+", 24, 0);
        }
        fault(pawn + " a8", 22, 0);
        fault(pawn + " a7Q", 22, 0);
        fault(pawn + " axb8Q", 22, 0);
        fault(pawn + " a8K", 21, 0);
        fault("1r6/P6k/8/8/8/8/8/K7 w - - 0 1 axb8N", 0);
        fault("1r6/P6k/8/8/8/8/8/K7 w - - 0 1 b8N", 23, 0);
        fault("7k/P7/8/8/8/8/8/K7 w - - 0 1 a8Q+", 0);
        fault("7k/P5pp/8/8/8/8/8/K7 w - - 0 1 a8Q#", 0);
        fault("k7/8/8/8/8/8/p7/2K5 b - - 0 1 a1R+", 0);
    }

    private static void endedGames() {
        fault(Texts.START + " f3 e5 g4 Qh4# e4", 20, 4);
        // 20 comes before the form: also for a word that is none
        fault(Texts.START + " f3 e5 g4 Qh4# ", 20, 4);
        fault(Texts.START + " f3 e5 g4 Qh4# ?? e5", 20, 4);
        fault(KINGS + " w - - 0 1 Ke2", 20, 0);
        fault("4k3/8/8/8/8/8/8/R3K3 w - - 150 1 Ra2", 20, 0);
        fault("4k3/8/8/8/8/8/8/R3K3 w - - 149 1 Ra2", 0);
        fault("4k3/8/8/8/8/8/8/R3K3 w - - 149 1 Ra2 Ke7", 20, 1);
        fault("4k3/8/8/8/8/8/P7/4K3 w - - 149 1 a3 Ke7", 0);
        fault("7k/8/6Q1/8/8/8/8/K7 b - - 0 1 Kg8", 20, 0);
        String round = " Nf3 Nf6 Ng1 Ng8";
        fault(Texts.START + round + round + round + round, 0);
        fault(Texts.START + round + round + round + round + " e4", 20, 16);
        fault(Texts.START + round + round + round + " e4 e5", 0);
    }

    /** 600 moves are taken, the one behind them is refused. */
    private static void sixHundred() {
        String text = LongGame.text(600);
        fault(text, 0);
        fault(text + " a1", 20, 600);
        fault(text + " ", 20, 600);
        fault(LongGame.text(599) + " ", 21, 599);
    }

    private static void refusedChangesNothing() {
        GameHall hall = Check.hall(Texts.START + " e4 e5");
        String before = Check.record(hall);
        for (String text : new String[] {"", "x", KINGS + " w - - 0 1 Ke9", Texts.START + " e4 e5 Nf3 Nc6 Bb5+"}) {
            Check.due("submit of " + text, Check.submit(hall, text), -1);
            Check.due("the game stays after " + text, Check.record(hall), before);
            Check.due("positions", hall.status(3), 3);
            Check.due("taken", hall.status(13), 1);
            Check.due("moves", hall.legalMany(), 29);
            Check.due("tape", hall.status(0), 0);
        }
        Check.due("fault", hall.status(1), 24);
        Check.due("move with it", hall.status(2), 4);
        Check.due("a new game", Check.submit(hall, KINGS + " w - - 0 1"), 0);
        Check.due("fault", hall.status(1), 0);
        Check.due("move with it", hall.status(2), -1);
        Check.due("taken", hall.status(13), 2);
        Check.due("record", Check.record(hall), KINGS + " w - - 0 1");
    }
}
