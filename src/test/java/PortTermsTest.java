import java.util.Arrays;

/** Terms: the boundary cases of the PORTS. */
public final class PortTermsTest {
    private static final Check CHECK = new Check("PortTermsTest");
    private static final int[] WAITS = {6, 5, 4, 3, 2, 1, 0, 0};

    public static void main(String[] args) {
        noRowIsSelected();
        oneRowIsSelected();
        keysAreOneInAllSelectedRows();
        otherBitsOfTheInput();
        edgesBeforeT();
        edgesBehindWaiting();
        edgesOddInNumber();
        borderOfThreeBits();
        speakerOfOneBit();
        sameSpeakerIsNoChange();
        changesOfTheFirstHundred();
        changeBehindWaiting();
        portsBesideTheOwnOne();
        CHECK.end();
    }

    private static int in(SpectrumBoard board, int port, int above) {
        Boards.load(board, Boards.CODE, 0xDB, port);
        board.set(Boards.PC, Boards.CODE);
        board.set(Boards.AF, above << 8 | 0xD7);
        board.run(1);
        CHECK.due("no flags", Boards.f(board), 0xD7);
        return Boards.a(board);
    }

    private static void out(SpectrumBoard board, int port, int value) {
        Boards.load(board, Boards.CODE, 0xD3, port);
        board.set(Boards.PC, Boards.CODE);
        board.set(Boards.AF, value << 8 | 0xD7);
        board.run(1);
        CHECK.due("AF stays", board.get(Boards.AF), value << 8 | 0xD7);
    }

    private static SpectrumBoard withRows(int... bits) {
        SpectrumBoard board = new SpectrumBoard();
        for (int row = 0; row < bits.length; row++) {
            board.key(row, bits[row]);
        }
        return board;
    }

    // "31 without one"
    private static void noRowIsSelected() {
        CHECK.due("all keys held", in(withRows(0, 0, 0, 0, 0, 0, 0, 0), 254, 255), 160 | 31);
        CHECK.due("no key held", in(new SpectrumBoard(), 254, 255), 160 | 31);
    }

    // "by the bits that are 0 of the byte above it (bit k: ROW k"
    private static void oneRowIsSelected() {
        for (int row = 0; row < 8; row++) {
            for (int k = 0; k < 8; k++) {
                SpectrumBoard board = new SpectrumBoard();
                board.key(row, 0);
                CHECK.due("row " + row + " by bit " + k, in(board, 254, 255 - (1 << k)), 160 | (k == row ? 0 : 31));
                board.key(row, 31);
                CHECK.due("row " + row + " let go", in(board, 254, 255 - (1 << k)), 160 | 31);
            }
        }
    }

    // "those that are 1 in all ROWS that are selected"
    private static void keysAreOneInAllSelectedRows() {
        SpectrumBoard board = withRows(30, 29, 27, 23, 15, 31, 31, 14);
        int[][] rows = {
            {0xFC, 28}, {0xFE, 30}, {0xFD, 29}, {0xE0, 0}, {0xF0, 16}, {0x9F, 31}, {0x1F, 14}, {0x7F, 14},
            {0x7E, 14},
            {0x6F, 14}, {0x7D, 12}, {0x00, 0}, {0xFF, 31}, {0x80, 0}, {0xDF, 31}};
        for (int[] row : rows) {
            CHECK.due("keys by " + row[0], in(board, 254, row[0]), 160 | row[1]);
        }
    }

    // "bits 5, 7: 1"
    private static void otherBitsOfTheInput() {
        CHECK.due("all keys held", in(withRows(0, 0, 0, 0, 0, 0, 0, 0), 254, 0), 160);
        CHECK.due("no key held", in(new SpectrumBoard(), 254, 0), 160 | 31);
        SpectrumBoard board = Boards.at(2100);
        board.edge(1);
        CHECK.due("with EAR", in(board, 254, 0), 160 | 64 | 31);
        board = new SpectrumBoard();
        out(board, 254, 255);
        CHECK.due("the speaker is not heard", in(board, 254, 0), 160 | 31);
    }

    private static int earAt(int portTime, int... gaps) {
        SpectrumBoard board = Boards.at(portTime - 7);
        for (int gap : gaps) {
            board.edge(gap);
        }
        return in(board, 254, 255) >> 6 & 1;
    }

    // "bit 6 EAR: whether the EDGES that came before T"
    private static void edgesBeforeT() {
        CHECK.due("edge one T before", earAt(2107, 2106), 1);
        CHECK.due("edge at T", earAt(2107, 2107), 0);
        CHECK.due("edge one T behind", earAt(2107, 2108), 0);
        CHECK.due("edge while the port is accessed", earAt(2107, 2110), 0);
        CHECK.due("edge while IN is fetched", earAt(2107, 2101), 1);
        CHECK.due("second edge one T before", earAt(2107, 2105, 1), 0);
        CHECK.due("second edge at T", earAt(2107, 2106, 1), 1);
    }

    // "as it is when the port is accessed (behind WAITING)": the wait is from 4040 until 4046.
    private static void edgesBehindWaiting() {
        CHECK.due("edge before waiting", earAt(4040, 4039), 1);
        CHECK.due("edge as waiting begins", earAt(4040, 4040), 1);
        CHECK.due("edge in the last T of waiting", earAt(4040, 4045), 1);
        CHECK.due("edge as waiting ends", earAt(4040, 4046), 0);
        CHECK.due("edges before, in and behind it", earAt(4040, 4000, 43, 1, 100), 1);
        for (int k = 0; k < 8; k++) {
            int access = 4040 + k + WAITS[k];
            CHECK.due("edge one T before " + access, earAt(4040 + k, access - 1), 1);
            CHECK.due("edge at " + access, earAt(4040 + k, access), 0);
        }
    }

    // "are odd in number"
    private static void edgesOddInNumber() {
        CHECK.due("no edge", earAt(2107), 0);
        for (int many = 1; many <= 64; many++) {
            int[] gaps = new int[many];
            Arrays.fill(gaps, 3);
            CHECK.due(many + " edges", earAt(2107, gaps), many % 2);
        }
    }

    // "OUT: bits 0 .. 2 are the BORDER"
    private static void borderOfThreeBits() {
        int[][] rows = {{0, 0}, {1, 1}, {7, 7}, {8, 0}, {15, 7}, {0xF8, 0}, {0xFF, 7}, {0xE5, 5}};
        for (int[] row : rows) {
            SpectrumBoard board = new SpectrumBoard();
            out(board, 254, row[0] ^ 7);
            out(board, 254, row[0]);
            CHECK.due("BORDER of " + row[0], board.count(1), row[1]);
        }
    }

    // "bit 4 the SPEAKER"
    private static void speakerOfOneBit() {
        int[][] rows = {{0, 0}, {8, 0}, {15, 0}, {16, 1}, {32, 0}, {0xEF, 0}, {0x10, 1}, {0xFF, 1}};
        for (int[] row : rows) {
            SpectrumBoard board = new SpectrumBoard();
            out(board, 254, row[0]);
            CHECK.due("SPEAKER of " + row[0], board.count(2), row[1]);
            CHECK.due("changes", board.count(3), row[1]);
            CHECK.due("change(0)", board.change(0) != SpectrumBoard.NONE, row[1] == 1);
        }
    }

    // "a change of it"
    private static void sameSpeakerIsNoChange() {
        SpectrumBoard board = Boards.at(2100);
        int[] values = {0, 7, 16, 16, 23, 255, 0, 0, 239, 16};
        int[] changes = {0, 0, 1, 1, 1, 1, 2, 2, 2, 3};
        for (int k = 0; k < values.length; k++) {
            out(board, 254, values[k]);
            CHECK.due("changes behind " + values[k], board.count(3), changes[k]);
        }
        CHECK.due("first", board.change(0), 2100 + 2 * 11 + 7);
        CHECK.due("second", board.change(1), 2100 + 6 * 11 + 7);
        CHECK.due("third", board.change(2), 2100 + 9 * 11 + 7);
        CHECK.due("no fourth", board.change(3), SpectrumBoard.NONE);
    }

    // "is kept with that T, the first 100": XOR B; OUT (254),A; JP back, a change each time.
    private static void changesOfTheFirstHundred() {
        SpectrumBoard board = Boards.at(2100, 0xA8, 0xD3, 254, 0xC3, 0x00, 0x08);
        board.set(Boards.BC, 0x1000);
        int[] times = new int[104];
        int now = 2100;
        for (int k = 0; k < times.length; k++) {
            int port = now + 11;
            boolean drawn = port % 4000 < 2000 && port % 100 < 64;
            times[k] = port + (drawn ? WAITS[port % 8] : 0);
            now = times[k] + 4 + 10;
        }
        board.run(now - 2100);
        CHECK.due("T", board.count(0), now);
        CHECK.due("changes", board.count(3), 104);
        for (int k = 0; k < times.length; k++) {
            CHECK.due("change(" + k + ")", board.change(k), k <= 99 ? times[k] : SpectrumBoard.NONE);
        }
    }

    // "kept with that T": behind waiting, as for EAR.
    private static void changeBehindWaiting() {
        int[][] rows = {
            {4040, 4046}, {4041, 4046}, {4045, 4046}, {4046, 4046}, {4047, 4047}, {4064, 4064}, {2107, 2107}};
        for (int[] row : rows) {
            SpectrumBoard board = Boards.at(row[0] - 7);
            out(board, 254, 16);
            CHECK.due("change at " + row[0], board.change(0), row[1]);
            CHECK.due("T", board.count(0), row[1] + 4);
        }
    }

    // "Others: IN 255, OUT nothing."
    private static void portsBesideTheOwnOne() {
        for (int port : new int[] {0, 1, 126, 127, 252, 253, 255}) {
            SpectrumBoard board = Boards.at(2100);
            board.key(0, 0);
            CHECK.due("IN of " + port, in(board, port, 0), 255);
            CHECK.due("IN of " + port, in(board, port, 254), 255);
            out(board, port, 255);
            for (int what = 1; what <= 3; what++) {
                CHECK.due("count(" + what + ") by " + port, board.count(what), 0);
            }
            out(board, 254, 0x15);
            out(board, port, 0);
            CHECK.due("BORDER stays", board.count(1), 5);
            CHECK.due("SPEAKER stays", board.count(2), 1);
            CHECK.due("changes stay", board.count(3), 1);
        }
    }
}
