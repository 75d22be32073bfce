/** Promise 8: the instructions that move PC, and HALT. */
public final class JumpsTest {
    private static final Check CHECK = new Check("JumpsTest");
    private static final int[] FLAG = {Boards.Z, Boards.C, Boards.P, Boards.S};

    public static void main(String[] args) {
        jumps();
        calls();
        returns();
        restarts();
        nearJumps();
        distances();
        countDown();
        halt();
        CHECK.end();
    }

    private static boolean holds(int condition, int flags) {
        boolean on = (flags & FLAG[condition / 2]) != 0;
        return on == (condition % 2 == 1);
    }

    private static SpectrumBoard ready(int flags, int... code) {
        SpectrumBoard board = Boards.with(code);
        board.set(Boards.AF, flags);
        board.set(Boards.SP, 0x0E20);
        return board;
    }

    private static void state(String what, SpectrumBoard board, int pc, int sp, int time) {
        CHECK.due(what + ": PC", board.get(Boards.PC), pc);
        CHECK.due(what + ": SP", board.get(Boards.SP), sp);
        CHECK.due(what + ": T", board.count(0), time);
    }

    private static void jumps() {
        SpectrumBoard board = ready(0, 0xC3, 0x34, 0xF2);
        board.run(1);
        state("JP", board, 0xF234, 0x0E20, 10);
        board = ready(0, 0xE9);
        board.set(Boards.HL, 0xF234);
        board.run(1);
        state("JP (HL)", board, 0xF234, 0x0E20, 4);
        for (int condition = 0; condition < 8; condition++) {
            for (int flags : new int[] {0, 1, 2, 4, 16, 64, 128, 0xD6, 0xD5, 0xD3, 0xC7, 0x97, 0x57, 0xD7}) {
                board = ready(flags, 0xC2 | condition << 3, 0x34, 0xF2);
                board.run(1);
                int pc = holds(condition, flags) ? 0xF234 : 2051;
                state("JP " + condition + " by " + flags, board, pc, 0x0E20, 10);
                CHECK.due("flags stay", board.get(Boards.AF), flags);
            }
        }
    }

    private static void calls() {
        SpectrumBoard board = ready(0, 0xCD, 0x34, 0xF2);
        board.run(1);
        state("CALL", board, 0xF234, 0x0E1E, 17);
        CHECK.due("pushed lower", board.peek(0x0E1E), 2051 & 255);
        CHECK.due("pushed higher", board.peek(0x0E1F), 2051 >> 8);
        for (int condition = 0; condition < 8; condition++) {
            for (int flags : new int[] {0, 1, 4, 64, 128, 0xD7}) {
                board = ready(flags, 0xC4 | condition << 3, 0x34, 0xF2);
                board.run(1);
                boolean goes = holds(condition, flags);
                state("CALL " + condition + " by " + flags, board,
                        goes ? 0xF234 : 2051, goes ? 0x0E1E : 0x0E20, goes ? 17 : 10);
                CHECK.due("pushed", board.peek(0x0E1E), goes ? 2051 & 255 : 0);
            }
        }
    }

    private static void returns() {
        SpectrumBoard board = ready(0, 0xC9);
        Boards.load(board, 0x0E20, 0x34, 0xF2);
        board.run(1);
        state("RET", board, 0xF234, 0x0E22, 10);
        for (int condition = 0; condition < 8; condition++) {
            for (int flags : new int[] {0, 1, 4, 64, 128, 0xD7}) {
                board = ready(flags, 0xC0 | condition << 3);
                Boards.load(board, 0x0E20, 0x34, 0xF2);
                board.run(1);
                boolean goes = holds(condition, flags);
                state("RET " + condition + " by " + flags, board,
                        goes ? 0xF234 : 2049, goes ? 0x0E22 : 0x0E20, goes ? 11 : 5);
            }
        }
    }

    private static void restarts() {
        for (int t = 0; t < 8; t++) {
            SpectrumBoard board = ready(0, 0xC7 | t << 3);
            board.run(1);
            state("RST " + t, board, 8 * t, 0x0E1E, 11);
            CHECK.due("pushed lower", board.peek(0x0E1E), 1);
            CHECK.due("pushed higher", board.peek(0x0E1F), 8);
        }
    }

    private static void nearJumps() {
        for (int condition = 0; condition < 4; condition++) {
            for (int flags : new int[] {0, 1, 4, 64, 128, 0xD7}) {
                SpectrumBoard board = ready(flags, 0x20 | condition << 3, 0x10);
                board.run(1);
                boolean goes = holds(condition, flags);
                state("JR " + condition + " by " + flags, board, goes ? 2066 : 2050, 0x0E20, goes ? 12 : 7);
            }
        }
    }

    private static void distances() {
        for (int d = 0; d < 256; d++) {
            int distance = d > 127 ? d - 256 : d;
            SpectrumBoard board = ready(0, 0x18, d);
            board.run(1);
            state("JR " + distance, board, 2050 + distance, 0x0E20, 12);
        }
        SpectrumBoard board = ready(0);
        Boards.load(board, 0, 0x18, 0xFC);
        board.set(Boards.PC, 0);
        board.run(1);
        CHECK.due("JR before 0", board.get(Boards.PC), 65534);
    }

    private static void countDown() {
        for (int b = 0; b < 256; b++) {
            SpectrumBoard board = ready(Boards.ALL_FLAGS, 0x10, 0x80);
            board.set(Boards.BC, b << 8 | 0x77);
            board.run(1);
            boolean goes = b != 1;
            state("DJNZ " + b, board, goes ? 2050 - 128 : 2050, 0x0E20, goes ? 13 : 8);
            CHECK.due("B", board.get(Boards.BC), (b - 1 & 255) << 8 | 0x77);
            CHECK.due("flags stay", board.get(Boards.AF), Boards.ALL_FLAGS);
        }
    }

    private static void halt() {
        SpectrumBoard board = ready(0, 0x76, 0xDD);
        CHECK.due("run to HALT", board.run(1), true);
        state("HALT", board, 2049, 0x0E20, 4);
        CHECK.due("in HALT", board.count(4), 1);
        CHECK.due("run in HALT, over what would TRAP", board.run(10), true);
        state("HALT stays", board, 2049, 0x0E20, 16);
        CHECK.due("each time is counted", board.count(7), 4);
        CHECK.due("a long HALT", board.run(20_000), true);
        state("without interrupts", board, 2049, 0x0E20, 20_016);
        CHECK.due("no interrupt", board.count(6), 0);
        board.set(Boards.PC, 2049);
        CHECK.due("HALT is over", board.run(1), false);
    }
}
