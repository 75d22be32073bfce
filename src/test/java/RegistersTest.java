/** Promises 4 and 5: set and get. */
public final class RegistersTest {
    private static final Check CHECK = new Check("RegistersTest");

    public static void main(String[] args) {
        eachPairHoldsItsValue();
        flagsHaveSixBits();
        programCounterEndsHalt();
        wrongNumbersAreRefused();
        CHECK.end();
    }

    private static void eachPairHoldsItsValue() {
        SpectrumBoard board = new SpectrumBoard();
        for (int pair = 0; pair < 10; pair++) {
            board.set(pair, 0x1100 * (pair + 1) + 0x41);
        }
        for (int pair = 0; pair < 10; pair++) {
            CHECK.due("get(" + pair + ")", board.get(pair), 0x1100 * (pair + 1) + 0x41);
        }
        for (int pair = 0; pair < 10; pair++) {
            board.set(pair, 65535);
            CHECK.due("highest of " + pair, board.get(pair), pair % 4 == 0 && pair < 8 ? 0xFFD7 : 65535);
            board.set(pair, 0);
            CHECK.due("lowest of " + pair, board.get(pair), 0);
        }
    }

    private static void flagsHaveSixBits() {
        for (int flags = 0; flags < 256; flags++) {
            SpectrumBoard board = new SpectrumBoard();
            board.set(0, 0xAA00 | flags);
            board.set(4, 0x5500 | flags);
            CHECK.due("AF of " + flags, board.get(0), 0xAA00 | flags & Boards.ALL_FLAGS);
            CHECK.due("AF' of " + flags, board.get(4), 0x5500 | flags & Boards.ALL_FLAGS);
        }
    }

    private static void programCounterEndsHalt() {
        SpectrumBoard board = Boards.with(0x76);
        board.run(20);
        for (int pair = 0; pair < 9; pair++) {
            board.set(pair, 3000);
            CHECK.due("HALT behind set(" + pair + ")", board.count(4), 1);
        }
        board.set(Boards.PC, board.get(Boards.PC));
        CHECK.due("HALT behind set of PC", board.count(4), 0);
        board.run(1);
        CHECK.due("PC goes on", board.get(Boards.PC), Boards.CODE + 2);
    }

    private static SpectrumBoard halted() {
        SpectrumBoard board = Boards.with(0x76);
        board.run(1);
        return board;
    }

    private static void wrongNumbersAreRefused() {
        for (int pair : new int[] {-1, 10, Integer.MIN_VALUE, Integer.MAX_VALUE}) {
            SpectrumBoard board = halted();
            CHECK.wrongNumber("set of pair " + pair, board, () -> board.set(pair, 1));
            CHECK.wrongNumber("get of pair " + pair, board, () -> board.get(pair));
        }
        for (int value : new int[] {-1, 65536, Integer.MIN_VALUE, Integer.MAX_VALUE}) {
            SpectrumBoard board = halted();
            CHECK.wrongNumber("set to " + value, board, () -> board.set(1, value));
            CHECK.wrongNumber("set of PC to " + value, board, () -> board.set(9, value));
        }
    }
}
