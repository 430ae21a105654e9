import java.util.Arrays;

/**
 * Chess by its laws: texts become games, games have positions, legal moves and verdicts.
 *
 * What every call promises stands in the project's document; README.md tells how the parts hang together.
 */
public final class GameHall {
    public static final int NONE = -1;

    private static final int PAWN = 1;
    private static final int KNIGHT = 2;
    private static final int BISHOP = 3;
    private static final int ROOK = 4;
    private static final int QUEEN = 5;
    private static final int KING = 6;
    /** What a black man has more than the white one of its kind. */
    private static final int BLACK = 6;

    private static final int TAPE_ROOM = 8180;
    private static final int TAPE_STEP = 20;
    private static final int MOST_MOVES = 600;
    /** A RIGHT position's men have fewer moves than this, even if each had its board for itself. */
    private static final int LIST_ROOM = 384;
    private static final int LOOK_MOST = 4;
    private static final int SHORT_LIST = 30;

    private static final String LETTERS = " PNBRQKpnbrqk";
    private static final String RIGHT_LETTERS = "KQkq";
    /** 0-0 and 0-0-0, the last character's byte lowest. */
    private static final long SHORT_CASTLE = 0x302D30L;
    private static final long LONG_CASTLE = 0x302D302D30L;
    private static final long LAST_RANKS = 0xFF000000000000FFL;

    private final char[] tape;
    private final Reader reader;
    private final Speller speller;
    private final RecordWriter writer;
    private final Search search;
    private final Endings endings;
    /** The game that stands, and the one that the next text is read into. */
    private Game game;
    private Game spare;
    private boolean playing;
    private int taped;
    private int fault;
    private int faultMove;
    private int texts;

    public GameHall(int slots) {
        Compass compass = new Compass();
        tape = new char[TAPE_ROOM];
        speller = new Speller();
        reader = new Reader(tape, speller);
        writer = new RecordWriter();
        search = new Search();
        endings = new Endings(compass);
        game = new Game(compass);
        spare = new Game(compass);
        playing = false;
        taped = 0;
        fault = 0;
        faultMove = NONE;
        texts = 0;
    }

    public boolean tape(int a, int b, int c, int d, int e) {
        if (taped + TAPE_STEP > TAPE_ROOM) {
            return false;
        }
        putNumber(a, taped);
        putNumber(b, taped + 4);
        putNumber(c, taped + 8);
        putNumber(d, taped + 12);
        putNumber(e, taped + 16);
        taped += TAPE_STEP;
        return true;
    }

    private void putNumber(int number, int at) {
        for (int k = 0; k < 4; k++) {
            tape[at + k] = (char) (number >>> 24 - 8 * k & 255);
        }
    }

    public int submit(int n) throws IllegalArgumentException {
        if (n < 1 || n > TAPE_STEP) {
            throw new IllegalArgumentException();
        }
        int length = taped == 0 ? 0 : taped - TAPE_STEP + n;
        taped = 0;
        fault = reader.readRecord(spare.board, length);
        faultMove = NONE;
        if (fault == 0) {
            spare.begin();
            fault = reader.readMoves(spare);
            faultMove = fault == 0 ? NONE : spare.rows - 1;
        }
        if (fault != 0) {
            return NONE;
        }
        Game read = spare;
        spare = game;
        game = read;
        playing = true;
        texts++;
        return game.rows - 1;
    }

    public int proceed(int i) throws IllegalStateException, IndexOutOfBoundsException {
        if (!playing || game.isOver() || game.isFull()) {
            throw new IllegalStateException();
        }
        if (i < 0 || i >= game.many) {
            throw new IndexOutOfBoundsException();
        }
        game.add(game.list[i]);
        return game.verdict();
    }

    public boolean retreat() {
        return playing && game.takeBack();
    }

    public int legalMany() {
        return playing ? game.many : 0;
    }

    public int legalMove(int i) throws IndexOutOfBoundsException {
        if (!hasPlace(i)) {
            throw new IndexOutOfBoundsException();
        }
        return game.list[i];
    }

    private boolean hasPlace(int i) {
        return playing && i >= 0 && i < game.many;
    }

    public long spelling(int i) throws IndexOutOfBoundsException {
        if (!hasPlace(i)) {
            throw new IndexOutOfBoundsException();
        }
        return speller.whole(game, i);
    }

    public long recordAt(int k) {
        return playing ? writer.eight(game.board, k) : 0L;
    }

    public int manOn(int square) {
        return playing && square >= 0 && square < 64 ? game.board.men[square] : NONE;
    }

    public long linesTo(int depth) throws IllegalStateException, IllegalArgumentException {
        if (!playing) {
            throw new IllegalStateException();
        }
        if (depth < 0 || depth > shortDepth()) {
            throw new IllegalArgumentException();
        }
        return search.lines(game, depth);
    }

    private int shortDepth() {
        return game.many <= SHORT_LIST ? 3 : 2;
    }

    public int valueAt(int depth) throws IllegalStateException, IllegalArgumentException {
        if (!playing) {
            throw new IllegalStateException();
        }
        if (depth < 0 || depth > lookDepth()) {
            throw new IllegalArgumentException();
        }
        search.look(game, depth);
        return search.value;
    }

    private int lookDepth() {
        return game.board.manyMen() <= 3 ? LOOK_MOST : shortDepth();
    }

    public int bestAt(int depth) throws IllegalStateException, IllegalArgumentException {
        if (!playing) {
            throw new IllegalStateException();
        }
        if (depth < 0 || depth > lookDepth()) {
            throw new IllegalArgumentException();
        }
        search.look(game, depth);
        return search.best;
    }

    public int distanceToMate() throws IllegalStateException {
        if (!playing) {
            throw new IllegalStateException();
        }
        return endings.distance(game.board);
    }

    public int matingMove() throws IllegalStateException {
        if (!playing) {
            throw new IllegalStateException();
        }
        return endings.nearer(game);
    }

    public int historyOf(int i, int w) throws IndexOutOfBoundsException {
        if (!playing || i < 0 || i >= game.rows || w < 0 || w >= Game.FACTS) {
            throw new IndexOutOfBoundsException();
        }
        return game.facts[i * Game.FACTS + w];
    }

    public int status(int which) {
        switch (which) {
            case 0:
                return taped;
            case 1:
                return fault;
            case 2:
                return faultMove;
            case 3:
                return playing ? game.rows : 0;
            case 10:
                return playing ? game.board.manyMen() : 0;
            case 11:
                return playing ? game.different() : 0;
            case 12:
                return playing ? game.greatestCount() : 0;
            case 13:
                return texts;
            default:
                return playing ? ofPosition(which) : NONE;
        }
    }

    private int ofPosition(int which) {
        switch (which) {
            case 4:
                return game.verdict();
            case 5:
                return game.board.side;
            case 6:
                return game.board.rights;
            case 7:
                return game.board.passant;
            case 8:
                return game.board.clock;
            case 9:
                return game.board.number;
            default:
                return NONE;
        }
    }

    /** Which squares are seen from each square; a set of squares is a long, square s its bit s. */
    private static final class Compass {
        /** East, north, north-east, north-west go up in square numbers; the four behind them are their opposites. */
        private static final int[] FILE_STEP = {1, 0, 1, -1, -1, 0, -1, 1};
        private static final int[] RANK_STEP = {0, 1, 1, 1, 0, -1, -1, -1};
        private static final int[] KNIGHT_FILE = {1, 2, 2, 1, -1, -2, -2, -1};
        private static final int[] KNIGHT_RANK = {2, 1, -1, -2, -2, -1, 1, 2};
        static final int STRAIGHT = 0;
        static final int ASKEW = 2;

        final long[] knight;
        final long[] king;
        /** What a pawn of a side attacks, at side * 64 + square. */
        final long[] pawn;
        /** All squares in a direction, at direction * 64 + square. */
        final long[] ray;
        /** All squares in the straight directions, and in the askew ones. */
        final long[] cross;
        final long[] saltire;

        Compass() {
            knight = new long[64];
            king = new long[64];
            pawn = new long[128];
            ray = new long[512];
            cross = new long[64];
            saltire = new long[64];
            for (int square = 0; square < 64; square++) {
                for (int d = 0; d < 8; d++) {
                    knight[square] |= beside(square, KNIGHT_FILE[d], KNIGHT_RANK[d]);
                    king[square] |= beside(square, FILE_STEP[d], RANK_STEP[d]);
                    ray[d * 64 + square] = wholeRay(square, d);
                }
                pawn[square] = beside(square, -1, 1) | beside(square, 1, 1);
                pawn[64 + square] = beside(square, -1, -1) | beside(square, 1, -1);
                cross[square] = ray[square] | ray[64 + square] | ray[256 + square] | ray[320 + square];
                saltire[square] = ray[128 + square] | ray[192 + square] | ray[384 + square] | ray[448 + square];
            }
        }

        private static long beside(int square, int files, int ranks) {
            int file = square % 8 + files;
            int rank = square / 8 + ranks;
            return file < 0 || file > 7 || rank < 0 || rank > 7 ? 0L : 1L << rank * 8 + file;
        }

        private static long wholeRay(int square, int d) {
            long squares = 0L;
            for (int k = 1; k < 8; k++) {
                squares |= beside(square, FILE_STEP[d] * k, RANK_STEP[d] * k);
            }
            return squares;
        }

        /** What a man on a square attacks along its straight or askew lines, up to what first stands on each. */
        long lines(int square, long occupied, int first) {
            long seen = 0L;
            for (int d = first; d < first + 2; d++) {
                long up = ray[d * 64 + square];
                long stops = up & occupied;
                seen |= up & (stops ^ stops - 1L);
                long down = ray[(d + 4) * 64 + square];
                stops = down & occupied;
                // only the highest stop counts: all bits below it are filled, then those short of it are cut off
                stops |= stops >>> 1;
                stops |= stops >>> 2;
                stops |= stops >>> 4;
                stops |= stops >>> 8;
                stops |= stops >>> 16;
                stops |= stops >>> 32;
                seen |= down & ~(stops >>> 1);
            }
            return seen;
        }
    }

    /** A position, with the moves that were made on it, so that they can be taken back. */
    private static final class Board {
        private static final int[] WORTH = {0, 1, 3, 3, 5, 9, 0, -1, -3, -3, -5, -9, 0};
        private static final int SAVED_ROOM = MOST_MOVES + LOOK_MOST + 4;
        private static final int PASSING = 1 << 24;

        final Compass compass;
        final int[] men;
        /** The squares of each man, and of each side's men. */
        final long[] sets;
        final long[] camp;
        int side;
        int rights;
        int passant;
        int clock;
        int number;
        /** White's men less black's. */
        int balance;
        /** What each move made took away: the man taken, rights, passant, clock, and whether it took in passing. */
        private final int[] saved;
        private int made;

        Board(Compass compass) {
            this.compass = compass;
            men = new int[64];
            sets = new long[13];
            camp = new long[2];
            saved = new int[SAVED_ROOM];
        }

        void clear() {
            Arrays.fill(men, 0);
            Arrays.fill(sets, 0L);
            Arrays.fill(camp, 0L);
            side = 0;
            rights = 0;
            passant = NONE;
            clock = 0;
            number = 1;
            balance = 0;
            made = 0;
        }

        static int lowest(long squares) {
            return Long.bitCount((squares & -squares) - 1L);
        }

        long occupied() {
            return camp[0] | camp[1];
        }

        int manyMen() {
            return Long.bitCount(camp[0] | camp[1]);
        }

        void put(int square, int man) {
            long bit = 1L << square;
            men[square] = man;
            sets[man] |= bit;
            camp[man > BLACK ? 1 : 0] |= bit;
            balance += WORTH[man];
        }

        void lift(int square) {
            int man = men[square];
            long bit = 1L << square;
            men[square] = 0;
            sets[man] &= ~bit;
            camp[man > BLACK ? 1 : 0] &= ~bit;
            balance -= WORTH[man];
        }

        int kingOf(int whose) {
            return lowest(sets[KING + BLACK * whose]);
        }

        boolean inCheck() {
            return attacked(kingOf(side), 1 - side, occupied(), 0L);
        }

        /** As if the board were occupied so, and the attackers on the squares gone were not there. */
        boolean attacked(int square, int by, long occupied, long gone) {
            int base = BLACK * by;
            long near = compass.knight[square] & sets[base + KNIGHT]
                    | compass.king[square] & sets[base + KING]
                    | compass.pawn[(1 - by) * 64 + square] & sets[base + PAWN];
            if ((near & ~gone) != 0L) {
                return true;
            }
            long straight = (sets[base + ROOK] | sets[base + QUEEN]) & ~gone;
            if ((compass.cross[square] & straight) != 0L
                    && (compass.lines(square, occupied, Compass.STRAIGHT) & straight) != 0L) {
                return true;
            }
            long askew = (sets[base + BISHOP] | sets[base + QUEEN]) & ~gone;
            return (compass.saltire[square] & askew) != 0L
                    && (compass.lines(square, occupied, Compass.ASKEW) & askew) != 0L;
        }

        /** Whether a move of the side to move takes in passing. */
        boolean passes(int from, int to) {
            return men[from] == PAWN + BLACK * side && (from & 7) != (to & 7) && men[to] == 0;
        }

        /** 2 or -2 files, if a move of the side to move castles, else 0. */
        int castleStep(int from, int to) {
            int step = to - from;
            return men[from] == KING + BLACK * side && (step == 2 || step == -2) ? step : 0;
        }

        void make(int move) {
            int from = move & 63;
            int to = move >> 6 & 63;
            int become = move >> 12;
            int man = men[from];
            boolean passing = passes(from, to);
            int where = passing ? to ^ 8 : to;
            int taken = men[where];
            int step = castleStep(from, to);
            saved[made] = taken | rights << 4 | passant + 1 << 8 | clock << 12 | (passing ? PASSING : 0);
            made++;
            lift(from);
            if (taken != 0) {
                lift(where);
            }
            put(to, become == 0 ? man : become + BLACK * side);
            if (step != 0) {
                lift(step > 0 ? to + 1 : to - 2);
                put(to - step / 2, ROOK + BLACK * side);
            }
            boolean pawn = man == PAWN + BLACK * side;
            rights &= ~(rightsAt(from) | rightsAt(to));
            passant = pawn && Math.abs(to - from) == 16 && isBesidePawn(to) ? to & 7 : NONE;
            clock = pawn || taken != 0 ? 0 : clock + 1;
            number += side;
            side = 1 - side;
        }

        /** The rights that hang on what stands on a square. */
        private static int rightsAt(int square) {
            switch (square) {
                case 0:
                    return 2;
                case 4:
                    return 3;
                case 7:
                    return 1;
                case 56:
                    return 8;
                case 60:
                    return 12;
                case 63:
                    return 4;
                default:
                    return 0;
            }
        }

        private boolean isBesidePawn(int square) {
            int other = PAWN + BLACK * (1 - side);
            int file = square & 7;
            return file > 0 && men[square - 1] == other || file < 7 && men[square + 1] == other;
        }

        /** Takes back the latest move made, which is this one. */
        void unmake(int move) {
            int from = move & 63;
            int to = move >> 6 & 63;
            int become = move >> 12;
            made--;
            int was = saved[made];
            int taken = was & 15;
            side = 1 - side;
            number -= side;
            rights = was >> 4 & 15;
            passant = (was >> 8 & 15) - 1;
            clock = was >> 12 & 4095;
            int man = become == 0 ? men[to] : PAWN + BLACK * side;
            lift(to);
            put(from, man);
            int step = castleStep(from, to);
            if (step != 0) {
                lift(to - step / 2);
                put(step > 0 ? to + 1 : to - 2, ROOK + BLACK * side);
            }
            if (taken != 0) {
                put((was & PASSING) == 0 ? to : to ^ 8, taken);
            }
        }
    }

    /** Lists the legal moves of a board. */
    private static final class Lister {
        private final Board board;
        private final Compass compass;
        /** The king's square of the side to move, and the men whose moves can leave it attacked. */
        private int king;
        private long risky;

        Lister(Board board, Compass compass) {
            this.board = board;
            this.compass = compass;
        }

        /** Puts the LIST into a row from a place on, or ends it early once it has as many as asked for: how many. */
        int fill(int[] into, int at, int most) {
            lookRound();
            int many = 0;
            long mine = board.camp[board.side];
            for (int k = Long.bitCount(mine); k > 0 && many < most; k--) {
                int from = Board.lowest(mine);
                mine &= mine - 1L;
                boolean risks = (risky >>> from & 1L) != 0L;
                boolean pawn = board.men[from] == PAWN + BLACK * board.side;
                long goals = goals(from);
                if (from == king) {
                    goals |= castlings();
                }
                for (int j = Long.bitCount(goals); j > 0 && many < most; j--) {
                    int to = Board.lowest(goals);
                    goals &= goals - 1L;
                    if (risks && exposes(from, to)) {
                        continue;
                    }
                    boolean becomes = pawn && (LAST_RANKS >>> to & 1L) != 0L;
                    for (int become = becomes ? KNIGHT : 0; become <= (becomes ? QUEEN : 0); become++) {
                        into[at + many] = from | to << 6 | become << 12;
                        many++;
                    }
                }
            }
            return many;
        }

        private void lookRound() {
            long mine = board.camp[board.side];
            king = board.kingOf(board.side);
            if (board.attacked(king, 1 - board.side, board.occupied(), 0L)) {
                risky = mine;
                return;
            }
            // a man off the king's lines shields nothing, but taking in passing also opens the line of the man taken
            risky = mine & (compass.cross[king] | compass.saltire[king] | 1L << king);
            if (board.passant != NONE) {
                risky |= board.sets[PAWN + BLACK * board.side];
            }
        }

        /** Where a man can go, castling apart, whether or not its king is attacked then. */
        private long goals(int from) {
            int man = board.men[from];
            long occupied = board.occupied();
            long goals;
            switch (man > BLACK ? man - BLACK : man) {
                case PAWN:
                    goals = pawnGoals(from);
                    break;
                case KNIGHT:
                    goals = compass.knight[from];
                    break;
                case BISHOP:
                    goals = compass.lines(from, occupied, Compass.ASKEW);
                    break;
                case ROOK:
                    goals = compass.lines(from, occupied, Compass.STRAIGHT);
                    break;
                case QUEEN:
                    goals = compass.lines(from, occupied, Compass.ASKEW)
                            | compass.lines(from, occupied, Compass.STRAIGHT);
                    break;
                default:
                    goals = compass.king[from];
                    break;
            }
            return goals & ~(board.camp[board.side] | board.sets[KING + BLACK * (1 - board.side)]);
        }

        private long pawnGoals(int from) {
            int side = board.side;
            int step = side == 0 ? 8 : -8;
            long empty = ~board.occupied();
            long goals = 1L << from + step & empty;
            if (goals != 0L && from / 8 == (side == 0 ? 1 : 6)) {
                goals |= 1L << from + 2 * step & empty;
            }
            return goals | compass.pawn[side * 64 + from] & (board.camp[1 - side] | passedSquare());
        }

        /** The square where a pawn can be taken in passing, or no square. */
        private long passedSquare() {
            if (board.passant == NONE) {
                return 0L;
            }
            int square = (board.side == 0 ? 40 : 16) + board.passant;
            boolean stands = board.men[square] == 0 && board.men[square ^ 8] == PAWN + BLACK * (1 - board.side);
            return stands ? 1L << square : 0L;
        }

        private long castlings() {
            int home = board.side == 0 ? 4 : 60;
            int rights = board.rights >> 2 * board.side & 3;
            if (rights == 0 || king != home) {
                return 0L;
            }
            int rook = ROOK + BLACK * board.side;
            int other = 1 - board.side;
            long occupied = board.occupied();
            boolean safe = !board.attacked(home, other, occupied, 0L);
            long goals = 0L;
            if (safe && (rights & 1) != 0 && board.men[home + 3] == rook && (occupied & 0x60L << home - 4) == 0L
                    && !board.attacked(home + 1, other, occupied, 0L)) {
                goals |= 1L << home + 2;
            }
            if (safe && (rights & 2) != 0 && board.men[home - 4] == rook && (occupied & 0x0EL << home - 4) == 0L
                    && !board.attacked(home - 1, other, occupied, 0L)) {
                goals |= 1L << home - 2;
            }
            return goals;
        }

        /** Whether the king is attacked once this has been made. (Where a king castles to, its rook hides nothing.) */
        private boolean exposes(int from, int to) {
            long gone = 1L << to;
            long occupied = board.occupied() & ~(1L << from) | gone;
            if (board.passes(from, to)) {
                gone = 1L << (to ^ 8);
                occupied &= ~gone;
            }
            return board.attacked(from == king ? to : king, 1 - board.side, occupied, gone);
        }
    }

    /** A row of positions, each with what its history makes of it. */
    private static final class Game {
        /** How many numbers are kept of a position, and which, as the document counts them. */
        static final int FACTS = 8;
        private static final int COUNT = 0;
        private static final int CLOCK = 1;
        private static final int VERDICT = 2;
        private static final int MOVE = 3;
        private static final int MANY = 4;
        private static final int CHECK = 5;
        private static final int FIRST = 6;
        private static final int PASSING = 7;
        /** How many longs tell whether two positions are the same. */
        private static final int KEYS = 5;
        /** The squares where file and rank are both even or both odd. */
        private static final long DARK = 0xAA55AA55AA55AA55L;

        final Board board;
        final Lister lister;
        /** The LIST of the latest position. */
        final int[] list;
        int many;
        /** How many positions there are. */
        int rows;
        final int[] facts;
        private final long[] keys;

        Game(Compass compass) {
            board = new Board(compass);
            lister = new Lister(board, compass);
            list = new int[LIST_ROOM];
            facts = new int[(MOST_MOVES + 1) * FACTS];
            keys = new long[(MOST_MOVES + 1) * KEYS];
        }

        /** The board's position is the first one. */
        void begin() {
            rows = 0;
            add(NONE);
        }

        /** The position behind a move comes to the row; with NONE that of the board, as the first one. */
        void add(int move) {
            if (move != NONE) {
                board.make(move);
            }
            many = lister.fill(list, 0, LIST_ROOM);
            int row = rows;
            int at = row * FACTS;
            rows++;
            facts[at + CLOCK] = board.clock;
            facts[at + MOVE] = move;
            facts[at + MANY] = many;
            facts[at + CHECK] = board.inCheck() ? 1 : 0;
            facts[at + PASSING] = passingFile();
            writeKeys(row);
            int same = latestSame(row);
            facts[at + COUNT] = same == NONE ? 1 : facts[same * FACTS + COUNT] + 1;
            facts[at + FIRST] = same == NONE ? row : facts[same * FACTS + FIRST];
            facts[at + VERDICT] = judge(at);
        }

        private int passingFile() {
            if (board.passant == NONE) {
                return NONE;
            }
            for (int k = 0; k < many; k++) {
                int to = list[k] >> 6 & 63;
                if (board.passes(list[k] & 63, to)) {
                    return to & 7;
                }
            }
            return NONE;
        }

        /** Each bit of the men's numbers has a long, and the rest has one. */
        private void writeKeys(int row) {
            int at = row * KEYS;
            for (int bit = 0; bit < 4; bit++) {
                long squares = 0L;
                for (int man = 1; man <= KING + BLACK; man++) {
                    if ((man >> bit & 1) != 0) {
                        squares |= board.sets[man];
                    }
                }
                keys[at + bit] = squares;
            }
            keys[at + 4] = board.side | board.rights << 1 | facts[row * FACTS + PASSING] + 1 << 5;
        }

        private int latestSame(int row) {
            // nothing from before the latest pawn's move or taking comes again
            int oldest = Math.max(0, row - board.clock);
            for (int k = row - 1; k >= oldest; k--) {
                if (isSame(k * KEYS, row * KEYS)) {
                    return k;
                }
            }
            return NONE;
        }

        private boolean isSame(int a, int b) {
            for (int k = 0; k < KEYS; k++) {
                if (keys[a + k] != keys[b + k]) {
                    return false;
                }
            }
            return true;
        }

        private int judge(int at) {
            if (many == 0) {
                return facts[at + CHECK] == 1 ? 1 : 2;
            }
            if (isDead()) {
                return 3;
            }
            int count = facts[at + COUNT];
            if (count >= 5) {
                return 4;
            }
            if (board.clock >= 150) {
                return 5;
            }
            if (count >= 3) {
                return board.clock >= 100 ? 8 : 6;
            }
            return board.clock >= 100 ? 7 : 0;
        }

        private boolean isDead() {
            int men = board.manyMen();
            if (men > 4) {
                return false;
            }
            long white = board.sets[BISHOP];
            long black = board.sets[BISHOP + BLACK];
            if (men == 4) {
                boolean oneEach = white != 0L && black != 0L;
                long dark = (white | black) & DARK;
                return oneEach && Long.bitCount(white | black) == 2 && (dark == 0L || dark == (white | black));
            }
            return men == 2 || (white | black | board.sets[KNIGHT] | board.sets[KNIGHT + BLACK]) != 0L;
        }

        int verdict() {
            return facts[(rows - 1) * FACTS + VERDICT];
        }

        boolean isOver() {
            int verdict = verdict();
            return verdict >= 1 && verdict <= 5;
        }

        boolean isFull() {
            return rows > MOST_MOVES;
        }

        /** The latest move, if there is one, is taken back. */
        boolean takeBack() {
            if (rows < 2) {
                return false;
            }
            rows--;
            board.unmake(facts[rows * FACTS + MOVE]);
            many = lister.fill(list, 0, LIST_ROOM);
            return true;
        }

        int different() {
            int found = 0;
            for (int row = 0; row < rows; row++) {
                if (facts[row * FACTS + COUNT] == 1) {
                    found++;
                }
            }
            return found;
        }

        int greatestCount() {
            int greatest = 0;
            for (int row = 0; row < rows; row++) {
                greatest = Math.max(greatest, facts[row * FACTS + COUNT]);
            }
            return greatest;
        }
    }

    /** Reads a text from the tape; its answers are the numbers of faults, 0 for none. */
    private static final class Reader {
        private final char[] tape;
        private final Speller speller;
        private final Word word;
        private int at;
        private int end;

        Reader(char[] tape, Speller speller) {
            this.tape = tape;
            this.speller = speller;
            word = new Word();
        }

        int readRecord(Board board, int length) {
            at = 0;
            end = length;
            board.clear();
            if (!readMen(board) || !skipBlank()) {
                return 1;
            }
            if (!readSide(board) || !skipBlank()) {
                return 2;
            }
            if (!readRights(board) || !skipBlank()) {
                return 3;
            }
            if (!readPassant(board) || !skipBlank()) {
                return 4;
            }
            board.clock = readNumber(999);
            if (board.clock == NONE || !skipBlank()) {
                return 5;
            }
            board.number = readNumber(9999);
            if (board.number < 1 || at < end && tape[at] != ' ') {
                return 6;
            }
            return wrong(board);
        }

        /** The sign at the cursor, or one that no field has. */
        private char sign() {
            return at < end ? tape[at] : (char) 0;
        }

        private boolean skipBlank() {
            if (sign() != ' ') {
                return false;
            }
            at++;
            return true;
        }

        private boolean readMen(Board board) {
            for (int rank = 7; rank >= 0; rank--) {
                if (!readRank(board, rank * 8)) {
                    return false;
                }
                if (rank > 0) {
                    if (sign() != '/') {
                        return false;
                    }
                    at++;
                }
            }
            return true;
        }

        private boolean readRank(Board board, int start) {
            boolean behindDigit = false;
            int file = 0;
            for (int k = 0; k < 8 && file < 8; k++) {
                char sign = sign();
                int man = LETTERS.indexOf(sign);
                if (man > 0) {
                    board.put(start + file, man);
                    file++;
                } else if (sign >= '1' && sign <= '8' && !behindDigit) {
                    file += sign - '0';
                } else {
                    return false;
                }
                behindDigit = man <= 0;
                at++;
            }
            return file == 8;
        }

        private boolean readSide(Board board) {
            char sign = sign();
            board.side = sign == 'b' ? 1 : 0;
            at++;
            return sign == 'w' || sign == 'b';
        }

        private boolean readRights(Board board) {
            if (sign() == '-') {
                at++;
                return true;
            }
            for (int k = 0; k < 4; k++) {
                if (sign() == RIGHT_LETTERS.charAt(k)) {
                    board.rights |= 1 << k;
                    at++;
                }
            }
            return board.rights != 0;
        }

        private boolean readPassant(Board board) {
            char sign = sign();
            at++;
            if (sign == '-') {
                return true;
            }
            if (sign < 'a' || sign > 'h' || sign() != (board.side == 0 ? '6' : '3')) {
                return false;
            }
            at++;
            board.passant = sign - 'a';
            return true;
        }

        /** NONE if there is no number, or none up to the most; a 0 ahead is a number that ends there. */
        private int readNumber(int most) {
            int number = NONE;
            for (int k = 0; k < 5 && number != 0; k++) {
                char sign = sign();
                if (sign < '0' || sign > '9') {
                    break;
                }
                number = Math.max(number, 0) * 10 + (sign - '0');
                at++;
            }
            return number > most ? NONE : number;
        }

        /** What keeps a position from being RIGHT. */
        private int wrong(Board board) {
            if (Long.bitCount(board.sets[KING]) != 1 || Long.bitCount(board.sets[KING + BLACK]) != 1) {
                return 7;
            }
            long pawns = board.sets[PAWN] | board.sets[PAWN + BLACK];
            if ((pawns & LAST_RANKS) != 0L || tooMany(board, 0) || tooMany(board, BLACK)) {
                return 8;
            }
            if (!rightsStand(board)) {
                return 9;
            }
            if (board.passant != NONE && !passantStands(board)) {
                return 10;
            }
            int other = 1 - board.side;
            return board.attacked(board.kingOf(other), board.side, board.occupied(), 0L) ? 11 : 0;
        }

        private boolean tooMany(Board board, int colour) {
            int spare = 8 - Long.bitCount(board.sets[colour + PAWN]);
            int above = Math.max(0, Long.bitCount(board.sets[colour + QUEEN]) - 1);
            for (int kind = KNIGHT; kind <= ROOK; kind++) {
                above += Math.max(0, Long.bitCount(board.sets[colour + kind]) - 2);
            }
            return above > spare;
        }

        private boolean rightsStand(Board board) {
            for (int k = 0; k < 4; k++) {
                int colour = k / 2 * BLACK;
                int home = k < 2 ? 4 : 60;
                int corner = k % 2 == 0 ? home + 3 : home - 4;
                boolean stand = board.men[home] == KING + colour && board.men[corner] == ROOK + colour;
                if ((board.rights >> k & 1) != 0 && !stand) {
                    return false;
                }
            }
            return true;
        }

        private boolean passantStands(Board board) {
            int other = 1 - board.side;
            int step = other == 0 ? 8 : -8;
            int second = (other == 0 ? 8 : 48) + board.passant;
            return board.clock == 0 && board.men[second] == 0 && board.men[second + step] == 0
                    && board.men[second + 2 * step] == PAWN + BLACK * other;
        }

        /** The moves behind the record are made; the game stands behind those ahead of the first fault. */
        int readMoves(Game game) {
            for (int k = 0; k <= MOST_MOVES && at < end; k++) {
                if (game.isOver() || game.isFull()) {
                    return 20;
                }
                // each word has its blank ahead of it, where the one before it ended
                int start = at + 1;
                at = wordEnd(start);
                if (!word.read(tape, start, at)) {
                    return 21;
                }
                int place = speller.choose(game, word);
                if (place < 0) {
                    return -place;
                }
                if (speller.sign(game, game.list[place]) != word.sign) {
                    return 24;
                }
                game.add(game.list[place]);
            }
            return 0;
        }

        private int wordEnd(int start) {
            for (int k = start; k < end; k++) {
                if (tape[k] == ' ') {
                    return k;
                }
            }
            return end;
        }
    }

    /** A word that has the form of a spelling, taken apart. */
    private static final class Word {
        /** Letter, file, rank, x, file, rank and sign. */
        private static final int LONGEST = 7;

        int kind;
        int target;
        int become;
        /** 2 or -2 if it castles, else 0. */
        int castle;
        /** All but the sign: its characters' bytes, the last one lowest. */
        long body;
        /** The + or # behind it, or 0. */
        int sign;

        /** Whether what stands there has the form; the fields tell of it only then. */
        boolean read(char[] text, int start, int stop) {
            if (stop <= start || stop - start > LONGEST) {
                return false;
            }
            char last = text[stop - 1];
            sign = last == '+' || last == '#' ? last : 0;
            int end = sign == 0 ? stop : stop - 1;
            body = 0L;
            for (int k = start; k < end; k++) {
                body = body << 8 | text[k];
            }
            castle = readCastle(text, start, end);
            become = 0;
            return castle != 0 || end > start && (readMan(text, start, end) || readPawn(text, start, end));
        }

        /** Sign by sign, as the body can't tell bytes 0 ahead of a word from none. */
        private static int readCastle(char[] text, int start, int end) {
            for (int k = start; k < end; k++) {
                if (text[k] != ((k - start) % 2 == 0 ? '0' : '-')) {
                    return 0;
                }
            }
            return end - start == 3 ? 2 : end - start == 5 ? -2 : 0;
        }

        private boolean readMan(char[] text, int start, int end) {
            kind = LETTERS.indexOf(text[start]);
            if (kind < KNIGHT || kind > KING || !readTarget(text, start + 1, end)) {
                return false;
            }
            int at = start + 1;
            int stop = end - 2;
            if (at < stop && isFile(text[at])) {
                at++;
            }
            if (at < stop && isRank(text[at])) {
                at++;
            }
            if (at < stop && text[at] == 'x') {
                at++;
            }
            return at == stop;
        }

        private boolean readPawn(char[] text, int start, int end) {
            kind = PAWN;
            int letter = LETTERS.indexOf(text[end - 1]);
            boolean becomes = letter >= KNIGHT && letter <= QUEEN;
            become = becomes ? letter : 0;
            int stop = becomes ? end - 1 : end;
            if (!readTarget(text, start, stop)) {
                return false;
            }
            int ahead = stop - 2 - start;
            return ahead == 0 || ahead == 2 && isFile(text[start]) && text[start + 1] == 'x';
        }

        /** The file and the rank that stand ahead of an end. */
        private boolean readTarget(char[] text, int start, int end) {
            if (end - start < 2 || !isFile(text[end - 2]) || !isRank(text[end - 1])) {
                return false;
            }
            target = (text[end - 1] - '1') * 8 + (text[end - 2] - 'a');
            return true;
        }

        private static boolean isFile(char sign) {
            return sign >= 'a' && sign <= 'h';
        }

        private static boolean isRank(char sign) {
            return sign >= '1' && sign <= '8';
        }
    }

    /** Spells moves of a game's LIST, and finds the move that a word means. */
    private static final class Speller {
        private final int[] answers;

        Speller() {
            answers = new int[LIST_ROOM];
        }

        /** The spelling with its first character's byte highest. */
        long whole(Game game, int place) {
            long text = plain(game, place);
            int sign = sign(game, game.list[place]);
            if (sign != 0) {
                text = text << 8 | sign;
            }
            for (int k = 0; k < 8 && text >>> 56 == 0L; k++) {
                text <<= 8;
            }
            return text;
        }

        /** The spelling without + and #, its last character's byte lowest. */
        private long plain(Game game, int place) {
            Board board = game.board;
            int from = game.list[place] & 63;
            int to = game.list[place] >> 6 & 63;
            int become = game.list[place] >> 12;
            int castle = board.castleStep(from, to);
            if (castle != 0) {
                return castle > 0 ? SHORT_CASTLE : LONG_CASTLE;
            }
            int kind = board.men[from] - BLACK * board.side;
            boolean takes = board.men[to] != 0;
            long text;
            if (kind == PAWN) {
                takes = (from & 7) != (to & 7);
                text = takes ? 'a' + (from & 7) : 0L;
            } else {
                text = origin(game, place, LETTERS.charAt(kind));
            }
            if (takes) {
                text = text << 8 | 'x';
            }
            text = (text << 8 | 'a' + (to & 7)) << 8 | '1' + to / 8;
            return become == 0 ? text : text << 8 | LETTERS.charAt(become);
        }

        /** The letter with the ORIGIN behind it. */
        private long origin(Game game, int place, long letter) {
            int from = game.list[place] & 63;
            int to = game.list[place] >> 6 & 63;
            boolean rivals = false;
            boolean sameFile = false;
            boolean sameRank = false;
            for (int k = 0; k < game.many; k++) {
                int other = game.list[k] & 63;
                if (other != from && (game.list[k] >> 6 & 63) == to
                        && game.board.men[other] == game.board.men[from]) {
                    rivals = true;
                    sameFile |= (other & 7) == (from & 7);
                    sameRank |= other / 8 == from / 8;
                }
            }
            long text = letter;
            if (rivals && (!sameFile || sameRank)) {
                text = text << 8 | 'a' + (from & 7);
            }
            if (sameFile) {
                text = text << 8 | '1' + from / 8;
            }
            return text;
        }

        /** The + or # behind a legal move, or 0. */
        int sign(Game game, int move) {
            int sign = 0;
            game.board.make(move);
            if (game.board.inCheck()) {
                sign = game.lister.fill(answers, 0, 1) == 0 ? '#' : '+';
            }
            game.board.unmake(move);
            return sign;
        }

        /** The place of the move that a word spells, its sign apart; or -22: none is meant, -23: none is spelled so. */
        int choose(Game game, Word word) {
            boolean meant = false;
            for (int k = 0; k < game.many; k++) {
                if (means(game, word, game.list[k])) {
                    if (plain(game, k) == word.body) {
                        return k;
                    }
                    meant = true;
                }
            }
            return meant ? -23 : -22;
        }

        private boolean means(Game game, Word word, int move) {
            Board board = game.board;
            int from = move & 63;
            int to = move >> 6 & 63;
            int castle = board.castleStep(from, to);
            if (word.castle != 0 || castle != 0) {
                return word.castle == castle;
            }
            return to == word.target && move >> 12 == word.become
                    && board.men[from] - BLACK * board.side == word.kind;
        }
    }

    /** Writes the record of a position. */
    private static final class RecordWriter {
        /** The longest record has 91 characters. */
        private static final int ROOM = 104;

        private final char[] text;
        private int length;

        RecordWriter() {
            text = new char[ROOM];
        }

        /** The eight characters from 8 * k on, the first one's byte highest. */
        long eight(Board board, int k) {
            if (k < 0 || k >= ROOM / 8) {
                return 0L;
            }
            write(board);
            long packed = 0L;
            for (int j = 8 * k; j < 8 * k + 8; j++) {
                packed = packed << 8 | (j < length ? text[j] : 0);
            }
            return packed;
        }

        private void write(Board board) {
            length = 0;
            for (int rank = 7; rank >= 0; rank--) {
                writeRank(board, rank * 8);
                put(rank > 0 ? '/' : ' ');
            }
            put(board.side == 0 ? 'w' : 'b');
            put(' ');
            for (int k = 0; k < 4; k++) {
                if ((board.rights >> k & 1) != 0) {
                    put(RIGHT_LETTERS.charAt(k));
                }
            }
            if (board.rights == 0) {
                put('-');
            }
            put(' ');
            if (board.passant == NONE) {
                put('-');
            } else {
                put((char) ('a' + board.passant));
                put(board.side == 0 ? '6' : '3');
            }
            put(' ');
            putNumber(board.clock);
            put(' ');
            putNumber(board.number);
        }

        private void writeRank(Board board, int start) {
            int empty = 0;
            for (int square = start; square < start + 8; square++) {
                int man = board.men[square];
                if (man == 0) {
                    empty++;
                    continue;
                }
                putEmpty(empty);
                empty = 0;
                put(LETTERS.charAt(man));
            }
            putEmpty(empty);
        }

        private void putEmpty(int empty) {
            if (empty > 0) {
                put((char) ('0' + empty));
            }
        }

        private void put(char sign) {
            if (length < ROOM) {
                text[length] = sign;
                length++;
            }
        }

        private void putNumber(int number) {
            boolean ahead = true;
            for (int part = 10000; part > 0; part /= 10) {
                int digit = number / part % 10;
                ahead = ahead && digit == 0 && part > 1;
                if (!ahead) {
                    put((char) ('0' + digit));
                }
            }
        }
    }

    /** Looks some half moves ahead. */
    private static final class Search {
        private static final int MATE = 1000;
        private static final int BEYOND = 2000;

        /** A row of moves for each half move ahead. */
        private final int[] moves;
        int value;
        int best;

        Search() {
            moves = new int[(LOOK_MOST + 1) * LIST_ROOM];
        }

        long lines(Game game, int depth) {
            return linesBelow(game, moves, depth, 0);
        }

        /** How many lines go on from here; ahead tells how many half moves are made already. */
        private static long linesBelow(Game game, int[] moves, int depth, int ahead) {
            if (depth <= 0 || ahead >= LOOK_MOST) {
                return 1L;
            }
            int row = ahead * LIST_ROOM;
            int many = game.lister.fill(moves, row, LIST_ROOM);
            if (depth == 1) {
                return many;
            }
            long found = 0L;
            for (int k = row; k < row + many; k++) {
                game.board.make(moves[k]);
                found += linesBelow(game, moves, depth - 1, ahead + 1);
                game.board.unmake(moves[k]);
            }
            return found;
        }

        /** Finds the value, and the place of the best move. */
        void look(Game game, int depth) {
            best = NONE;
            if (depth == 0 || game.many == 0) {
                value = valueBelow(game, moves, 0, 0, -BEYOND, BEYOND);
                return;
            }
            value = -BEYOND;
            for (int k = 0; k < game.many; k++) {
                game.board.make(game.list[k]);
                int worth = -valueBelow(game, moves, depth - 1, 1, -BEYOND, -value);
                game.board.unmake(game.list[k]);
                if (worth > value) {
                    value = worth;
                    best = k;
                }
            }
        }

        /**
         * The value, if it is above the least and below the most, else a number that is likewise not. That a mate
         * loses 1 on each step back is the same as counting it less by the half moves ahead of it.
         */
        private static int valueBelow(Game game, int[] moves, int depth, int ahead, int least, int most) {
            boolean last = depth <= 0 || ahead >= LOOK_MOST;
            int row = ahead * LIST_ROOM;
            int many = game.lister.fill(moves, row, last ? 1 : LIST_ROOM);
            if (many == 0) {
                return game.board.inCheck() ? ahead - MATE : 0;
            }
            if (last) {
                return game.board.side == 0 ? game.board.balance : -game.board.balance;
            }
            int greatest = least;
            for (int k = row; k < row + many && greatest < most; k++) {
                game.board.make(moves[k]);
                int worth = -valueBelow(game, moves, depth - 1, ahead + 1, -most, -greatest);
                game.board.unmake(moves[k]);
                greatest = Math.max(greatest, worth);
            }
            return greatest;
        }
    }

    /** How far the mate is with a king and one man of a kind against a king. */
    private static final class Ending {
        private static final int SLOTS = 4096;
        private static final int DIGITS = 5;
        /** More than a distance can be that is written in so many digits. */
        private static final int FAR = 2 << DIGITS;
        private static final long NOT_FILE_A = 0xFEFEFEFEFEFEFEFEL;
        private static final long NOT_FILE_H = 0x7F7F7F7F7F7F7F7FL;

        private final Compass compass;
        private final int kind;
        /** What a pawn can become; null for the other kinds. */
        private final Ending queen;
        private final Ending rook;
        /**
         * The strong side is white here. A slot is the man's square * 64 + its king's; each row has for a slot
         * a set of squares of the king alone: those attacked by the man, ...
         */
        private final long[] hits;
        /** ... where it has the move and a legal one, where it has the move and is lost, ... */
        private final long[] open;
        private final long[] weak;
        /** ... where it can be with the strong side to move, where the strong side then wins, ... */
        private final long[] apart;
        private final long[] strong;
        /** ... and what became lost by the latest step. */
        private final long[] fresh;
        /** The binary digits of half the distance: for the king alone to move, then for the strong side. */
        private final long[] digits;
        int longest;

        Ending(Compass compass, int kind, Ending queen, Ending rook) {
            this.compass = compass;
            this.kind = kind;
            this.queen = queen;
            this.rook = rook;
            hits = new long[SLOTS];
            open = new long[SLOTS];
            weak = new long[SLOTS];
            apart = new long[SLOTS];
            strong = new long[SLOTS];
            fresh = new long[SLOTS];
            digits = new long[2 * DIGITS * SLOTS];
        }

        void build() {
            for (int slot = 0; slot < SLOTS; slot++) {
                start(slot);
            }
            // a pawn's mates can wait for those of what it becomes
            boolean becomes = queen != null && rook != null;
            int awaited = becomes ? Math.max(queen.longest, rook.longest) + 1 : 0;
            int quiet = 0;
            for (int n = 1; n < FAR && (quiet < 2 || n <= awaited); n++) {
                boolean grown = n % 2 == 1 ? stepStrong(n) : stepWeak(n);
                if (becomes && n % 2 == 1) {
                    grown |= stepBecoming(n);
                }
                quiet = grown ? 0 : quiet + 1;
                longest = grown ? n : longest;
            }
        }

        /** The positions of a slot, and which of them are mate; where there is no such slot all rows stay empty. */
        private void start(int slot) {
            int man = slot / 64;
            int king = slot % 64;
            if (man == king || kind == PAWN && (LAST_RANKS >>> man & 1L) != 0L) {
                return;
            }
            hits[slot] = hitsOf(man, 1L << king);
            long legal = ~(compass.king[king] | 1L << king | 1L << man);
            long movable = spread(~(hits[slot] | compass.king[king]));
            apart[slot] = legal & ~hits[slot];
            open[slot] = legal & movable;
            weak[slot] = legal & hits[slot] & ~movable;
            fresh[slot] = weak[slot];
        }

        /** The king alone hides nothing: where it could be hidden behind itself it is attacked already. */
        private long hitsOf(int man, long occupied) {
            if (kind == PAWN) {
                return compass.pawn[man];
            }
            long straight = compass.lines(man, occupied, Compass.STRAIGHT);
            return kind == ROOK ? straight : straight | compass.lines(man, occupied, Compass.ASKEW);
        }

        /** All squares beside some of these. */
        private static long spread(long squares) {
            long aside = (squares & NOT_FILE_H) << 1 | (squares & NOT_FILE_A) >>> 1;
            long row = squares | aside;
            return aside | row << 8 | row >>> 8;
        }

        /** What can go to where the king alone was lost by the step before is won in n half moves. */
        private boolean stepStrong(int n) {
            boolean grown = false;
            for (int slot = 0; slot < SLOTS; slot++) {
                if (fresh[slot] == 0L) {
                    continue;
                }
                int man = slot / 64;
                int king = slot % 64;
                long kings = compass.king[king] & ~(1L << man);
                for (int k = Long.bitCount(kings); k > 0; k--) {
                    grown |= gain(man * 64 + Board.lowest(kings), fresh[slot], n) != 0L;
                    kings &= kings - 1L;
                }
                // a pawn cannot go over the king alone; for other men it would be attacked already
                long lost = kind == PAWN ? fresh[slot] & ~(1L << man - 8) : fresh[slot];
                long men = cameFrom(man, king);
                for (int k = Long.bitCount(men); k > 0; k--) {
                    grown |= gain(Board.lowest(men) * 64 + king, lost, n) != 0L;
                    men &= men - 1L;
                }
            }
            return grown;
        }

        /** Where the man can have been ahead of its move. */
        private long cameFrom(int man, int king) {
            long free = ~(1L << king);
            if (kind != PAWN) {
                return hits[man * 64 + king] & free;
            }
            long one = (1L << man) >>> 8 & free & ~LAST_RANKS;
            return man / 8 == 3 ? one | one >>> 8 : one;
        }

        /** A pawn on its seventh rank wins by what it becomes. */
        private boolean stepBecoming(int n) {
            boolean grown = false;
            for (int slot = 48 * 64; slot < 56 * 64; slot++) {
                long lost = queen.lostIn(slot + 512, n - 1) | rook.lostIn(slot + 512, n - 1);
                grown |= gain(slot, lost, n) != 0L;
            }
            return grown;
        }

        /** The squares of the king alone, to move, that have just this distance. */
        private long lostIn(int slot, int n) {
            long lost = weak[slot];
            for (int d = 0; d < DIGITS; d++) {
                long digit = digits[d * SLOTS + slot];
                lost &= (n >> d + 1 & 1) != 0 ? digit : ~digit;
            }
            return lost;
        }

        /** Where all that the king alone can do is lost for it, it is lost in n half moves. */
        private boolean stepWeak(int n) {
            boolean grown = false;
            for (int slot = 0; slot < SLOTS; slot++) {
                fresh[slot] = 0L;
                if ((open[slot] & ~weak[slot]) != 0L) {
                    long safe = ~(hits[slot] | compass.king[slot % 64] | strong[slot]);
                    fresh[slot] = gain(slot, ~spread(safe), n);
                    grown |= fresh[slot] != 0L;
                }
            }
            return grown;
        }

        /** Those of the squares get the distance n that can have one, with the side to move, and have none yet. */
        private long gain(int slot, long squares, int n) {
            long[] can = n % 2 == 1 ? apart : open;
            long[] have = n % 2 == 1 ? strong : weak;
            long gained = squares & can[slot] & ~have[slot];
            have[slot] |= gained;
            for (int d = 0; d < DIGITS && gained != 0L; d++) {
                if ((n >> d + 1 & 1) != 0) {
                    digits[(n % 2 * DIGITS + d) * SLOTS + slot] |= gained;
                }
            }
            return gained;
        }

        /** The distance, or NONE. */
        int read(int slot, int king, boolean strongMoves) {
            long known = strongMoves ? strong[slot] : weak[slot];
            if ((known >>> king & 1L) == 0L) {
                return NONE;
            }
            int odd = strongMoves ? 1 : 0;
            int n = odd;
            for (int d = 0; d < DIGITS; d++) {
                long digit = digits[(odd * DIGITS + d) * SLOTS + slot];
                n |= (int) (digit >>> king & 1L) << d + 1;
            }
            return n;
        }
    }

    /** The endings that have been asked for; what takes long to build is built once, when it is needed. */
    private static final class Endings {
        private final Compass compass;
        /** By the kind of the man; null if it has not been built. */
        private final Ending[] built;

        Endings(Compass compass) {
            this.compass = compass;
            built = new Ending[KING];
        }

        int distance(Board board) {
            if (board.rights != 0 || board.manyMen() != 3) {
                return NONE;
            }
            int strong = Long.bitCount(board.camp[0]) == 2 ? 0 : 1;
            int man = Board.lowest(board.camp[strong] & ~board.sets[KING + BLACK * strong]);
            int kind = board.men[man] - BLACK * strong;
            if (kind == KNIGHT || kind == BISHOP) {
                // neither ever mates alone
                return NONE;
            }
            if (kind == PAWN) {
                prepare(QUEEN);
                prepare(ROOK);
            }
            prepare(kind);
            // black's boards are turned over, so that its pawn goes up
            int turn = strong == 0 ? 0 : 56;
            int slot = (man ^ turn) * 64 + (board.kingOf(strong) ^ turn);
            return built[kind].read(slot, board.kingOf(1 - strong) ^ turn, board.side == strong);
        }

        private void prepare(int kind) {
            if (built[kind] == null) {
                boolean becomes = kind == PAWN;
                built[kind] = new Ending(compass, kind, becomes ? built[QUEEN] : null, becomes ? built[ROOK] : null);
                built[kind].build();
            }
        }

        /** The place of the first move that makes the distance 1 less, or NONE. */
        int nearer(Game game) {
            int distance = distance(game.board);
            if (distance <= 0) {
                return NONE;
            }
            for (int k = 0; k < game.many; k++) {
                game.board.make(game.list[k]);
                int left = distance(game.board);
                game.board.unmake(game.list[k]);
                if (left == distance - 1) {
                    return k;
                }
            }
            return NONE;
        }
    }
}
