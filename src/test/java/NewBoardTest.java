/** Promise 1: a new object. */
public final class NewBoardTest {
    private static final Check CHECK = new Check("NewBoardTest");

    public static void main(String[] args) {
        registersAndCountsAreZero();
        memoryIsZero();
        noKeyIsHeld();
        noEdgeCame();
        interruptsAreOff();
        firstRunIsFromZeroOn();
        boardsAreApart();
        CHECK.end();
    }

    // Terms: T "0 at first", REGISTERS "all 0 at first"; promise 1: "BORDER and SPEAKER 0"
    private static void registersAndCountsAreZero() {
        SpectrumBoard board = new SpectrumBoard();
        for (int pair = 0; pair < 10; pair++) {
            CHECK.due("get(" + pair + ")", board.get(pair), 0);
        }
        for (int what = 0; what < 8; what++) {
            CHECK.due("count(" + what + ")", board.count(what), 0);
        }
        CHECK.due("change(0)", board.change(0), SpectrumBoard.NONE);
    }

    // "MEMORY of 0"
    private static void memoryIsZero() {
        for (int first = 0; first < 4096; first += 500) {
            SpectrumBoard board = new SpectrumBoard();
            for (int address = first; address < Math.min(first + 500, 4096); address++) {
                CHECK.due("peek(" + address + ")", board.peek(address), 0);
            }
        }
    }

    private static int in(SpectrumBoard board, int above) {
        Boards.load(board, Boards.CODE, 0xDB, 0xFE);
        board.set(Boards.PC, Boards.CODE);
        board.set(Boards.AF, above << 8);
        board.run(1);
        return Boards.a(board);
    }

    // "all ROWS 31 (no key)"
    private static void noKeyIsHeld() {
        for (int row = 0; row < 8; row++) {
            CHECK.due("IN of row " + row, in(new SpectrumBoard(), 255 & ~(1 << row)), 160 | 31);
        }
        CHECK.due("IN of all rows", in(new SpectrumBoard(), 0), 160 | 31);
    }

    // "no EDGES"
    private static void noEdgeCame() {
        CHECK.due("the first edge", new SpectrumBoard().edge(1), 1);
        CHECK.due("EAR at first", in(new SpectrumBoard(), 255), 160 | 31);
        SpectrumBoard board = new SpectrumBoard();
        for (int k = 0; k < 20; k++) {
            board.run(20_000);
            CHECK.due("EAR later", in(board, 255), 160 | 31);
        }
    }

    // Terms: interrupts "off at first"
    private static void interruptsAreOff() {
        SpectrumBoard board = new SpectrumBoard();
        board.run(10_000);
        CHECK.due("they are on", board.count(5), 0);
        CHECK.due("they came", board.count(6), 0);
        CHECK.due("SP", board.get(Boards.SP), 0);
    }

    // MEMORY of 0 is NOP all over.
    private static void firstRunIsFromZeroOn() {
        SpectrumBoard board = new SpectrumBoard();
        CHECK.due("run(1)", board.run(1), true);
        CHECK.due("PC", board.get(Boards.PC), 1);
        CHECK.due("T", board.count(0), 4);
        CHECK.due("instructions", board.count(7), 1);
        CHECK.due("not in HALT", board.count(4), 0);
    }

    private static void boardsAreApart() {
        SpectrumBoard one = new SpectrumBoard();
        SpectrumBoard other = new SpectrumBoard();
        String before = Boards.answers(other);
        one.poke(0, -1, 4);
        one.set(Boards.HL, 7);
        one.key(0, 0);
        one.edge(5);
        one.set(Boards.PC, 2048);
        one.run(100);
        CHECK.due("the other board is as it was", before.equals(Boards.answers(other)), true);
        CHECK.due("edges of the other board", other.edge(5), 1);
    }
}
