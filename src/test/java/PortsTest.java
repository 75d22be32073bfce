/** Promises 6 and 7, and the PORTS: keys, edges, border and speaker, as instructions see them. */
public final class PortsTest {
    private static final Check CHECK = new Check("PortsTest");

    public static void main(String[] args) {
        eachRowIsSelectedByItsBit();
        selectedRowsAreJoined();
        wrongKeysAreRefused();
        edgesAreCounted();
        earFollowsTheEdges();
        earIsHeardBehindWaiting();
        edgesMayComeLate();
        wrongEdgesAreRefused();
        otherPortsAreEmpty();
        borderAndSpeakerAreTold();
        CHECK.end();
    }

    private static int in(SpectrumBoard board, int port, int above) {
        Boards.load(board, Boards.CODE, 0xDB, port);
        board.set(Boards.PC, Boards.CODE);
        board.set(Boards.AF, above << 8 | Boards.ALL_FLAGS);
        board.run(1);
        CHECK.due("flags behind IN", Boards.f(board), Boards.ALL_FLAGS);
        return Boards.a(board);
    }

    private static void out(SpectrumBoard board, int port, int value) {
        Boards.load(board, Boards.CODE, 0xD3, port);
        board.set(Boards.PC, Boards.CODE);
        board.set(Boards.AF, value << 8 | Boards.ALL_FLAGS);
        board.run(1);
        CHECK.due("AF behind OUT", board.get(Boards.AF), value << 8 | Boards.ALL_FLAGS);
    }

    private static void eachRowIsSelectedByItsBit() {
        SpectrumBoard board = new SpectrumBoard();
        for (int row = 0; row < 8; row++) {
            board.key(row, 10 + row);
        }
        for (int row = 0; row < 8; row++) {
            CHECK.due("row " + row, in(board, 254, 255 & ~(1 << row)), 160 | 10 + row);
        }
        CHECK.due("no row", in(board, 254, 255), 160 | 31);
        board.key(3, 31);
        CHECK.due("row 3 let go", in(board, 254, 0xF7), 160 | 31);
    }

    private static void selectedRowsAreJoined() {
        for (int above = 0; above < 256; above++) {
            SpectrumBoard board = new SpectrumBoard();
            int want = 31;
            for (int row = 0; row < 8; row++) {
                int bits = 31 & ~(row * 5 + 1);
                board.key(row, bits);
                want &= (above >> row & 1) == 0 ? bits : 31;
            }
            CHECK.due("rows by " + above, in(board, 254, above), 160 | want);
        }
    }

    private static void wrongKeysAreRefused() {
        SpectrumBoard board = new SpectrumBoard();
        for (int row : new int[] {-1, 8, Integer.MIN_VALUE, Integer.MAX_VALUE}) {
            CHECK.wrongNumber("key of row " + row, board, () -> board.key(row, 0));
        }
        for (int bits : new int[] {-1, 32, Integer.MIN_VALUE, Integer.MAX_VALUE}) {
            CHECK.wrongNumber("key to " + bits, board, () -> board.key(0, bits));
        }
        SpectrumBoard kept = new SpectrumBoard();
        CHECK.wrongNumber("key to 32", kept, () -> kept.key(0, 32));
        CHECK.wrongNumber("key to -32", kept, () -> kept.key(0, -32));
        CHECK.due("row 0 behind them", in(kept, 254, 0), 160 | 31);
        kept.key(0, 0);
        kept.key(7, 31);
        CHECK.due("the edges of both", in(kept, 254, 0), 160);
    }

    private static void edgesAreCounted() {
        SpectrumBoard board = new SpectrumBoard();
        for (int many = 1; many <= 64; many++) {
            CHECK.due("edge", board.edge(many % 2 == 0 ? 1 : 100_000), many);
        }
        CHECK.refused("edge 65", board, IllegalStateException.class, () -> board.edge(1));
        CHECK.refused("edge 65 again", board, IllegalStateException.class, () -> board.edge(100_000));
        CHECK.wrongNumber("edge 65 with a wrong gap", board, () -> board.edge(0));
    }

    private static int earAt(int time, int... gaps) {
        SpectrumBoard board = Boards.at(time);
        for (int gap : gaps) {
            board.edge(gap);
        }
        return in(board, 254, 255) >> 6 & 1;
    }

    // IN reaches its port 7 T behind its beginning, and waits for nothing at 2100.
    private static void earFollowsTheEdges() {
        for (int distance = -3; distance <= 3; distance++) {
            int expected = distance > 0 ? 1 : 0;
            CHECK.due("ear " + distance + " T behind", earAt(2100, 2107 - distance), expected);
            CHECK.due("second ear " + distance + " T behind", earAt(2100, 10, 2097 - distance), 1 - expected);
        }
        CHECK.due("ear behind three", earAt(2100, 1, 1, 1), 1);
        CHECK.due("ear behind four", earAt(2100, 1, 1, 1, 1), 0);
        CHECK.due("ear before a far one", earAt(2100, 1, 1, 1, 100_000), 1);
        CHECK.due("ear before all", earAt(2100, 100_000), 0);
    }

    // At 4033 the port is reached at 4040, which is 0 modulo 8: it waits until 4046.
    private static void earIsHeardBehindWaiting() {
        CHECK.due("edge while it waits", earAt(4033, 4045), 1);
        CHECK.due("edge as it is accessed", earAt(4033, 4046), 0);
    }

    private static void edgesMayComeLate() {
        SpectrumBoard board = Boards.at(2100);
        CHECK.due("ear before", in(board, 254, 255), 160 | 31);
        board.edge(50);
        CHECK.due("ear behind", in(board, 254, 255), 160 | 64 | 31);
        board.edge(50);
        CHECK.due("ear behind two", in(board, 254, 255), 160 | 31);
    }

    private static void wrongEdgesAreRefused() {
        SpectrumBoard board = new SpectrumBoard();
        for (int gap : new int[] {0, -1, 100_001, Integer.MIN_VALUE, Integer.MAX_VALUE}) {
            CHECK.wrongNumber("edge of " + gap, board, () -> board.edge(gap));
        }
        CHECK.due("edge behind them", board.edge(100_000), 1);
    }

    private static void otherPortsAreEmpty() {
        for (int port = 0; port < 256; port++) {
            if (port == 254) {
                continue;
            }
            SpectrumBoard board = Boards.at(2100);
            board.key(0, 0);
            board.edge(1);
            CHECK.due("IN of " + port, in(board, port, 0), 255);
            out(board, port, 255);
            CHECK.due("border by " + port, board.count(1), 0);
            CHECK.due("speaker by " + port, board.count(2), 0);
            CHECK.due("changes by " + port, board.count(3), 0);
        }
    }

    private static void borderAndSpeakerAreTold() {
        for (int value = 0; value < 256; value++) {
            SpectrumBoard board = new SpectrumBoard();
            out(board, 254, value);
            CHECK.due("border by " + value, board.count(1), value & 7);
            CHECK.due("speaker by " + value, board.count(2), value >> 4 & 1);
            CHECK.due("changes by " + value, board.count(3), value >> 4 & 1);
            out(board, 254, value ^ 7);
            CHECK.due("border turned round", board.count(1), ~value & 7);
            CHECK.due("changes stay", board.count(3), value >> 4 & 1);
            out(board, 254, 0);
            CHECK.due("border 0 again", board.count(1), 0);
            CHECK.due("speaker 0 again", board.count(2), 0);
            CHECK.due("changes then", board.count(3), 2 * (value >> 4 & 1));
        }
    }
}
