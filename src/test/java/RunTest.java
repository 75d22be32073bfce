/** Promises 8 and 9: how a RUN ends, TRAP, and what is counted. */
public final class RunTest {
    private static final Check CHECK = new Check("RunTest");

    public static void main(String[] args) {
        itEndsByTime();
        trapsAreThose();
        trapChangesNothing();
        trapAtTheEndIsNotReached();
        countsAreTold();
        longRuns();
        wrongNumbersAreRefused();
        CHECK.end();
    }

    private static void itEndsByTime() {
        for (int more = 1; more <= 20; more++) {
            SpectrumBoard board = Boards.with(0, 0, 0);
            CHECK.due("run(" + more + ")", board.run(more), true);
            CHECK.due("T behind run(" + more + ")", board.count(0), (more + 3) / 4 * 4);
            CHECK.due("instructions", board.count(7), (more + 3) / 4);
        }
        SpectrumBoard board = Boards.with(0xE3, 0xE3);
        board.set(Boards.SP, 3000);
        board.run(19);
        CHECK.due("one of 19", board.count(0), 19);
        board.run(1);
        CHECK.due("the time is from where it was", board.count(0), 38);
    }

    private static void trapsAreThose() {
        for (int code = 0; code < 256; code++) {
            boolean single = code != 0xDD && code != 0xFD && code != 0xED;
            SpectrumBoard board = Boards.with(code, code == 0xED ? 0x40 : 0);
            CHECK.due("run of " + code, board.run(1), single);
            board = Boards.with(0xCB, code);
            CHECK.due("run of CB " + code, board.run(1), code < 0x30 || code > 0x37);
            board = Boards.with(0xED, code);
            boolean known = code == 0x44 || code == 0xA0 || code == 0xB0
                    || code == 0x42 || code == 0x52 || code == 0x62 || code == 0x72
                    || code == 0x4A || code == 0x5A || code == 0x6A || code == 0x7A;
            CHECK.due("run of ED " + code, board.run(1), known);
        }
    }

    private static void trapChangesNothing() {
        int[][] traps = {{0xDD, 0}, {0xFD, 0x21}, {0xCB, 0x36}, {0xED, 0xB8}, {0xED, 0x45}, {0xED, 0}};
        for (int[] trap : traps) {
            for (int place : new int[] {3000, 1500, 1023, 4095}) {
                SpectrumBoard board = Boards.at(4036, 0x3C, 0x3C, 0xC3, place & 255, place >> 8);
                Boards.load(board, place, trap);
                board.set(Boards.HL, 3001);
                CHECK.due("run to TRAP", board.run(10_000), false);
                CHECK.due("T", board.count(0), 4036 + 18);
                CHECK.due("PC", board.get(Boards.PC), place);
                CHECK.due("A", Boards.a(board), 2);
                CHECK.due("instructions", board.count(7), Boards.instructionsToReach(4036) + 3);
                String before = Boards.answers(board);
                CHECK.due("run again", board.run(20_000), false);
                CHECK.due("all as it was", before.equals(Boards.answers(board)), true);
            }
        }
    }

    private static void trapAtTheEndIsNotReached() {
        SpectrumBoard board = Boards.with(0, 0xDD);
        CHECK.due("run(4) ends before it", board.run(4), true);
        CHECK.due("run(1) finds it", board.run(1), false);
        board = Boards.with(0, 0xDD);
        CHECK.due("run(5) finds it", board.run(5), false);
        CHECK.due("T", board.count(0), 4);
    }

    private static void countsAreTold() {
        // LD A,1Dh; OUT (254),A; EI; HALT
        SpectrumBoard board = Boards.at(2100, 0x3E, 0x1D, 0xD3, 254, 0xFB, 0x76);
        board.set(Boards.SP, 3000);
        int before = board.count(7);
        board.run(26);
        int[] want = {2126, 5, 1, 1, 1, 1, 0, before + 4};
        for (int what = 0; what < 8; what++) {
            CHECK.due("count(" + what + ")", board.count(what), want[what]);
        }
        board.run(4000);
        CHECK.due("INTERRUPTS", board.count(6), 1);
        CHECK.due("off by it", board.count(5), 0);
        CHECK.due("HALT is over", board.count(4), 0);
    }

    private static void longRuns() {
        SpectrumBoard board = Boards.with(0x76);
        for (int k = 1; k <= 500; k++) {
            CHECK.due("run " + k, board.run(20_000), true);
        }
        CHECK.due("T", board.count(0), 10_000_000);
        CHECK.due("instructions", board.count(7), 2_500_000);
        // A copy onto itself goes on for all of BC.
        board = Boards.with(0xED, 0xB0, 0xDD);
        board.set(Boards.HL, 3000);
        board.set(Boards.DE, 3000);
        board.set(Boards.BC, 900);
        CHECK.due("LDIR of 900 and TRAP", board.run(20_000), false);
        CHECK.due("T", board.count(0), 899 * 21 + 16);
    }

    private static void wrongNumbersAreRefused() {
        for (int more : new int[] {0, -1, 20_001, Integer.MIN_VALUE, Integer.MAX_VALUE}) {
            SpectrumBoard board = new SpectrumBoard();
            CHECK.wrongNumber("run(" + more + ")", board, () -> board.run(more));
        }
        for (int what : new int[] {-1, 8, Integer.MIN_VALUE, Integer.MAX_VALUE}) {
            SpectrumBoard board = new SpectrumBoard();
            CHECK.wrongNumber("count(" + what + ")", board, () -> board.count(what));
        }
        CHECK.due("run(20000)", new SpectrumBoard().run(20_000), true);
    }
}
