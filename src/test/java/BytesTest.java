/** Every byte at every place of some texts, put in and put instead, on the program and on the slow second writing. */
public final class BytesTest {
    private static final String[] TEXTS = {
        "4k3/8/8/8/8/8/8/4K2R w K - 0 1 0-0",
        "r3k2r/8/8/8/8/8/8/R3K2R b KQkq - 12 34 0-0-0 Rxh8",
        "5k2/8/8/8/8/8/8/4K2R w K - 0 1 0-0+",
        "1r5k/P5pp/8/8/8/8/8/K7 w - - 0 1 axb8Q#",
        "4k3/8/8/R2pP3/8/8/8/R3K3 w - d6 0 1 exd6 Kf8 R1a3",
        "6k1/8/8/8/Q2Q4/8/8/Q2n2K1 w - - 0 1 Qa4xd1 Kh7",
    };
    private static final int TEXTS_AN_OBJECT = 50;

    private static GameHall hall;
    private static Plain plain;
    private static int read = 0;

    public static void main(String[] args) {
        for (String text : TEXTS) {
            compare(text);
            Check.due("fault of " + text, hall.status(1), 0);
            for (int at = 0; at <= text.length(); at++) {
                for (int sign = 0; sign < 256; sign++) {
                    String ahead = text.substring(0, at);
                    compare(ahead + (char) sign + text.substring(at));
                    if (at < text.length()) {
                        compare(ahead + (char) sign + text.substring(at + 1));
                    }
                }
            }
        }
        Check.end("BytesTest");
    }

    private static void compare(String text) {
        // an object is used for 512 calls at most
        if (read % TEXTS_AN_OBJECT == 0) {
            hall = new GameHall(0);
            plain = new Plain();
        }
        read++;
        for (int at = 0; at < text.length(); at += 20) {
            int[] n = Check.numbers(text, at);
            plain.tape(n[0], n[1], n[2], n[3], n[4]);
        }
        int due = plain.submit(Check.tail(text));
        String name = shown(text);
        Check.due("submit of " + name, Check.submit(hall, text), due);
        Check.due("fault of " + name, hall.status(1), plain.status(1));
        Check.due("place in " + name, hall.status(2), plain.status(2));
    }

    private static String shown(String text) {
        StringBuilder out = new StringBuilder();
        for (char sign : text.toCharArray()) {
            out.append(sign >= ' ' && sign <= '~' ? "" + sign : "<" + (int) sign + ">");
        }
        return out.toString();
    }
}
