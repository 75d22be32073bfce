/** Promise 10: change. */
public final class ChangeTest {
    private static final Check CHECK = new Check("ChangeTest");

    public static void main(String[] args) {
        timesAreThoseOfThePort();
        timesAreBehindWaiting();
        onlyAHundredAreKept();
        CHECK.end();
    }

    // LD A,16; OUT (254),A; XOR A; OUT (254),A; OUT (254),A, where nothing waits.
    private static void timesAreThoseOfThePort() {
        SpectrumBoard board = Boards.at(2100, 0x3E, 16, 0xD3, 254, 0xAF, 0xD3, 254, 0xD3, 254);
        board.run(44);
        CHECK.due("T", board.count(0), 2144);
        CHECK.due("changes", board.count(3), 2);
        CHECK.due("first", board.change(0), 2114);
        CHECK.due("second", board.change(1), 2129);
        for (int k : new int[] {2, 3, 99, 100, -1, Integer.MIN_VALUE, Integer.MAX_VALUE}) {
            CHECK.due("change(" + k + ")", board.change(k), SpectrumBoard.NONE);
        }
    }

    private static void timesAreBehindWaiting() {
        int[] waits = {6, 5, 4, 3, 2, 1, 0, 0};
        for (int k = 0; k < 8; k++) {
            int port = 4040 + k;
            SpectrumBoard board = Boards.at(port - 7, 0xD3, 254);
            board.set(Boards.AF, 0x1000);
            board.run(1);
            CHECK.due("change at " + port, board.change(0), port + waits[k]);
            CHECK.due("T behind it", board.count(0), port + waits[k] + 4);
        }
    }

    // XOR B; OUT (254),A; JR back: 27 T for each change.
    private static void onlyAHundredAreKept() {
        SpectrumBoard board = Boards.at(2100, 0xA8, 0xD3, 254, 0x18, 0xFB);
        board.set(Boards.BC, 0x1000);
        board.run(27 * 70);
        int inOneFrame = board.count(3);
        CHECK.due("changes at first", inOneFrame, 70);
        for (int k = 0; k < 70; k++) {
            CHECK.due("change(" + k + ")", board.change(k), 2100 + 27 * k + 11);
        }
        CHECK.due("change(70) is to come", board.change(70), SpectrumBoard.NONE);
        board.run(10_000);
        CHECK.due("all are counted", board.count(3) > 300, true);
        CHECK.due("change(99) is kept", board.change(99) > board.change(98), true);
        CHECK.due("change(100) is not", board.change(100), SpectrumBoard.NONE);
        CHECK.due("change(0) stays", board.change(0), 2111);
    }
}
