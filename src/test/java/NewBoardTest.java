/** Promise 1: a new object. */
public final class NewBoardTest {
    private static final Check CHECK = new Check("NewBoardTest");

    public static void main(String[] args) {
        registersAndCountsAreZero();
        memoryIsZero();
        noKeyIsHeldAndNoEdgeCame();
        boardsAreApart();
        CHECK.end();
    }

    private static void registersAndCountsAreZero() {
        SpectrumBoard board = new SpectrumBoard();
        for (int pair = 0; pair < 10; pair++) {
            CHECK.due("get(" + pair + ")", board.get(pair), 0);
        }
        for (int what = 0; what < 8; what++) {
            CHECK.due("count(" + what + ")", board.count(what), 0);
        }
        CHECK.due("change(0)", board.change(0), SpectrumBoard.NONE);
    }

    private static void memoryIsZero() {
        for (int first = 0; first < 4096; first += 500) {
            SpectrumBoard board = new SpectrumBoard();
            for (int address = first; address < Math.min(first + 500, 4096); address++) {
                CHECK.due("peek(" + address + ")", board.peek(address), 0);
            }
        }
    }

    private static void noKeyIsHeldAndNoEdgeCame() {
        for (int row = 0; row < 8; row++) {
            SpectrumBoard board = Boards.with(0xDB, 0xFE);
            board.set(Boards.AF, (255 & ~(1 << row)) << 8);
            board.run(1);
            CHECK.due("IN of row " + row, Boards.a(board), 160 | 31);
        }
        CHECK.due("the first edge", new SpectrumBoard().edge(1), 1);
    }

    private static void boardsAreApart() {
        SpectrumBoard one = new SpectrumBoard();
        SpectrumBoard other = new SpectrumBoard();
        String before = Boards.answers(other);
        one.poke(0, -1, 4);
        one.set(Boards.HL, 7);
        one.key(0, 0);
        one.edge(5);
        one.set(Boards.PC, 2048);
        one.run(100);
        CHECK.due("the other board is as it was", before.equals(Boards.answers(other)), true);
        CHECK.due("edges of the other board", other.edge(5), 1);
    }
}
