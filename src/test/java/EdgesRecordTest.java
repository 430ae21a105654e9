/** The edges that the document names under RECORD: each sentence of it has a method here, and stands above it. */
public final class EdgesRecordTest {
    private static final String[] FIELDS = {"4k3/8/8/8/8/8/P7/4K3", "w", "-", "-", "5", "7"};
    private static final String[] NO_BLANK = {"", "\t", "\0", "_", "\u00a0"};

    public static void main(String[] args) {
        oneBlank();
        endsEarly();
        behindTheSixth();
        eightRanks();
        eightSquares();
        digitsSideBySide();
        menLetters();
        side();
        rights();
        passant();
        clock();
        number();
        zeroAhead();
        firstField();
        Check.end("EdgesRecordTest");
    }

    /** "A RECORD is six fields with one blank between any two." */
    private static void oneBlank() {
        Check.fault(String.join(" ", FIELDS), 0);
        Check.fault(" " + String.join(" ", FIELDS), 1);
        for (int gap = 1; gap <= 5; gap++) {
            for (String sign : NO_BLANK) {
                Check.fault(joined(gap, sign), gap);
            }
            // the second blank is where the next field ought to begin
            Check.fault(joined(gap, "  "), gap + 1);
            Check.fault(joined(gap, " \t"), gap + 1);
        }
    }

    /** The record with another sign behind one of its fields. */
    private static String joined(int gap, String sign) {
        StringBuilder text = new StringBuilder(FIELDS[0]);
        for (int k = 1; k < 6; k++) {
            text.append(k == gap ? sign : " ").append(FIELDS[k]);
        }
        return text.toString();
    }

    /** "1 .. 6 the first field of the RECORD that is not as said (also if no blank stands behind it ...)" */
    private static void endsEarly() {
        StringBuilder text = new StringBuilder();
        Check.fault("", 1);
        for (int k = 0; k < 6; k++) {
            text.append(FIELDS[k]);
            Check.fault(text.toString(), k < 5 ? k + 1 : 0);
            text.append(' ');
            // behind the sixth it is the blank ahead of a move that is nothing
            Check.fault(text.toString(), k < 5 ? k + 2 : 21, k < 5 ? -1 : 0);
        }
    }

    /** "... behind the sixth the end or a blank". */
    private static void behindTheSixth() {
        String record = String.join(" ", FIELDS);
        Check.fault(record + " a3", 0);
        for (int sign = 0; sign < 256; sign++) {
            boolean digit = sign >= '0' && sign <= '9';
            Check.fault(record + (char) sign, digit ? 0 : sign == ' ' ? 21 : 6, sign == ' ' ? 0 : -1);
        }
    }

    /** "1: the ranks from the eighth to the first, parted by /". */
    private static void eightRanks() {
        men("4k3/8/8/8/8/8/4K3", 1);
        men("4k3/8/8/8/8/8/8/8/4K3", 1);
        men("4k3/8/8/8/8/8/8/4K3/", 1);
        men("/4k3/8/8/8/8/8/8/4K3", 1);
        men("4k3/8/8/8//8/8/8/4K3", 1);
        men("4k3/8/8/8 8/8/8/4K3", 1);
        men("4k3/8/8/8-8/8/8/4K3", 1);
        men("4k388888884K3", 1);
        men("4k3", 1);
        men("/", 1);
        men("///////", 1);
        GameHall hall = Check.hall("1k6/8/8/8/8/8/P7/6K1 w - - 0 1");
        Check.due("the eighth rank comes first, each from file a on", hall.manOn(57), 12);
        Check.due("the first rank comes last", hall.manOn(6), 6);
        Check.due("the second one", hall.manOn(8), 1);
    }

    private static void men(String field, int fault) {
        Check.fault(field + " w - - 0 1", fault);
    }

    /** "... eight squares each." */
    private static void eightSquares() {
        String[] right = {"8", "p7", "7p", "pp6", "p1p1p1p1", "1p1p1p1p", "3p4", "pppp4", "1p6"};
        String[] wrong = {"", "7", "9", "0", "p6", "6p", "p8", "8p", "p7p", "1p7", "7pp", "ppppppppp", "ppppppp",
            "p1p1p1p", "p1p1p1p1p", "p1p1p1p2", "4p4", "2p4", "p71", "0p7", "p0p6", "3p0p3", "p7p0", "9p", "p9",
            " p6", "p p5", "7 ", " 7", "pppppp p", "-p6", "\0p6"};
        for (int rank = 1; rank < 7; rank++) {
            for (String one : right) {
                Check.fault(withRank(rank, one), 0);
            }
            for (String one : wrong) {
                Check.fault(withRank(rank, one), 1);
            }
        }
        // the first and the last of the ranks, where a king stands
        for (String one : new String[] {"4k2", "4k4", "3k3", "5k3", "4k", "k8", "kk7", "8k", "4k3p", "k8p", "4k4p", "7kk1p"}) {
            men(one + "/8/8/8/8/8/8/4K3", 1);
            men("4k3/8/8/8/8/8/8/" + one.replace('k', 'K'), 1);
        }
    }

    private static String withRank(int rank, String one) {
        String[] ranks = {"4k3", "8", "8", "8", "8", "8", "8", "4K3"};
        ranks[rank] = one;
        return String.join("/", ranks) + " w - - 0 1";
    }

    /** "... a digit 1 .. 8 for so many empty ones; no two digits side by side". */
    private static void digitsSideBySide() {
        for (int first = 1; first <= 7; first++) {
            Check.fault(withRank(3, "" + first + (8 - first)), 1);
            Check.fault(withRank(3, first < 7 ? "p" + first + (7 - first) : "11p5"), 1);
            Check.fault(withRank(3, first < 7 ? "" + first + (7 - first) + "p" : "5p11"), 1);
        }
        Check.fault(withRank(3, "11111111"), 1);
        Check.fault(withRank(3, "08"), 1);
        Check.fault(withRank(3, "80"), 1);
        Check.fault(withRank(3, "0pppppppp"), 1);
        Check.fault(withRank(3, "pppppppp0"), 1);
        // with the / between them they are not side by side
        Check.fault("4k3/7p/1p6/7p/1p5p/1p6/8/4K3 w - - 0 1", 0);
    }

    /** "a letter for a man (P N B R Q K white, p n b r q k black)": no other sign is one. */
    private static void menLetters() {
        for (int sign = 0; sign < 256; sign++) {
            String text = "6k1/8/8/" + (char) sign + "7/8/8/8/6K1 w - - 0 1";
            int man = " PNBRQKpnbrqk".indexOf(sign);
            boolean king = sign == 'K' || sign == 'k';
            Check.fault(text, man <= 0 ? 1 : king ? 7 : 0);
            if (man > 0 && !king) {
                Check.due("man " + (char) sign, Check.hall(text).manOn(32), man);
            }
        }
    }

    /** "2: w or b." */
    private static void side() {
        for (int sign = 0; sign < 256; sign++) {
            Check.fault(FIELDS[0] + " " + (char) sign + " - - 5 7", sign == 'w' || sign == 'b' ? 0 : 2);
        }
        for (String two : new String[] {"wb", "ww", "bw", "w-", "-w"}) {
            Check.fault(FIELDS[0] + " " + two + " - - 5 7", 2);
        }
        Check.due("w", Check.hall(FIELDS[0] + " w - - 5 7").status(5), 0);
        Check.due("b", Check.hall(FIELDS[0] + " b - - 5 7").status(5), 1);
    }

    /** "3: - or some of K, Q, k, q in this order (1, 2, 4, 8)." */
    private static void rights() {
        String signs = "KQkq-";
        for (int length = 0; length <= 5; length++) {
            int words = (int) Math.pow(5, length);
            for (int word = 0; word < words; word++) {
                StringBuilder text = new StringBuilder();
                for (int rest = word, k = 0; k < length; k++, rest /= 5) {
                    text.append(signs.charAt(rest % 5));
                }
                rights(text.toString());
            }
        }
    }

    private static void rights(String field) {
        GameHall hall = new GameHall(0);
        Check.submit(hall, "r3k2r/8/8/8/8/8/8/R3K2R w " + field + " - 5 7");
        int sum = 0;
        for (char sign : field.toCharArray()) {
            sum += sign == '-' ? 0 : 1 << "KQkq".indexOf(sign);
        }
        boolean right = !field.isEmpty() && field.matches("-|K?Q?k?q?");
        Check.due("fault of rights " + field, hall.status(1), right ? 0 : 3);
        Check.due("rights " + field, hall.status(6), right ? sum : -1);
    }

    /** "4: - or a file and 6, if white is to move, 3, if black (the PASSANT)." */
    private static void passant() {
        String white = "k7/8/8/pppppppp/8/8/8/7K w - ";
        String black = "k7/8/8/8/PPPPPPPP/8/8/7K b - ";
        Check.fault(white + "- 0 1", 0);
        Check.fault(black + "- 0 1", 0);
        for (char file = '`'; file <= 'i'; file++) {
            for (char rank = '0'; rank <= '9'; rank++) {
                boolean stands = file >= 'a' && file <= 'h';
                Check.fault(white + file + rank + " 0 1", stands && rank == '6' ? 0 : 4);
                Check.fault(black + file + rank + " 0 1", stands && rank == '3' ? 0 : 4);
            }
        }
        for (String field : new String[] {"", "a", "h", "6", "3", "--", "-6", "-3", "a66", "a33", "aa6", "aa3", "a-",
            "A6", "A3", "H6", "6a", "3a", "a6-", "a3-"}) {
            Check.fault(white + field + " 0 1", 4);
            Check.fault(black + field + " 0 1", 4);
        }
        for (int file = 0; file < 8; file++) {
            Check.due("PASSANT", Check.hall(white + (char) ('a' + file) + "6 0 1").status(7), file);
            Check.due("PASSANT", Check.hall(black + (char) ('a' + file) + "3 0 1").status(7), file);
        }
        Check.due("no PASSANT", Check.hall(white + "- 0 1").status(7), -1);
    }

    /** "5 the CLOCK 0 .. 999". */
    private static void clock() {
        for (int clock = 0; clock <= 1111; clock++) {
            GameHall hall = new GameHall(0);
            Check.submit(hall, FIELDS[0] + " w - - " + clock + " 7");
            Check.due("fault of clock " + clock, hall.status(1), clock <= 999 ? 0 : 5);
            Check.due("clock " + clock, hall.status(8), clock <= 999 ? clock : -1);
        }
        for (String field : new String[] {"", "-1", "+1", "-0", "-", "x", "1x", "x1", "1.0", "1e1", "0x1", "5-", "9999",
            "10000", "65536", "99999", "100000", "1000000", "4294967296", "4294967297", "18446744073709551616",
            "99999999999999999999999999"}) {
            Check.fault(FIELDS[0] + " w - - " + field + " 7", 5);
        }
    }

    /** "6 the NUMBER 1 .. 9999". */
    private static void number() {
        for (int number : new int[] {1, 2, 9, 10, 11, 99, 100, 101, 255, 256, 999, 1000, 1001, 4095, 4096, 9998, 9999}) {
            String text = FIELDS[0] + " b - - 5 " + number;
            Check.fault(text, 0);
            Check.due("number " + number, Check.hall(text).status(9), number);
        }
        for (String field : new String[] {"", "0", "-1", "+1", "-", "x", "1x", "x1", "1.", "10000", "10001", "10009",
            "11111", "19999", "20000", "65537", "99990", "99999", "100001", "999999", "4294967297",
            "18446744073709551617", "99999999999999999999999999"}) {
            Check.fault(FIELDS[0] + " w - - 5 " + field, 6);
        }
    }

    /** "... in digits without a 0 ahead (0 alone is one)." */
    private static void zeroAhead() {
        Check.fault(FIELDS[0] + " w - - 0 7", 0);
        Check.due("0 alone", Check.hall(FIELDS[0] + " w - - 0 7").status(8), 0);
        for (String field : new String[] {"00", "01", "05", "000", "001", "010", "099", "0999", "0000000000"}) {
            Check.fault(FIELDS[0] + " w - - " + field + " 7", 5);
            Check.fault(FIELDS[0] + " w - - 5 " + field, 6);
        }
        // a 0 that is not ahead is one like any other
        Check.fault(FIELDS[0] + " w - - 100 1000", 0);
        Check.fault(FIELDS[0] + " w - - 10 7070", 0);
    }

    /** "It is read from its beginning on; the first fault refuses it": of all fields that are wrong the first. */
    private static void firstField() {
        String[] wrong = {"9", "x", "y", "z", "q", "0"};
        for (int from = 0; from < 6; from++) {
            for (int to = from; to < 6; to++) {
                String[] fields = FIELDS.clone();
                for (int k = from; k <= to; k++) {
                    fields[k] = wrong[k];
                }
                Check.fault(String.join(" ", fields), from + 1);
            }
        }
        // a field that is wrong comes before a position that is, and before a move
        String[] fields = {"8/8/8/8/8/8/8/8", "w", "K", "e6", "5", "7"};
        Check.fault(String.join(" ", fields), 7);
        for (int k = 1; k < 6; k++) {
            String[] some = fields.clone();
            some[k] = "x";
            Check.fault(String.join(" ", some) + " a3", k + 1);
        }
    }
}
