/** Boards made ready for a test. */
final class Boards {
    static final int AF = 0;
    static final int BC = 1;
    static final int DE = 2;
    static final int HL = 3;
    static final int SP = 8;
    static final int PC = 9;

    static final int S = 128;
    static final int Z = 64;
    static final int H = 16;
    static final int P = 4;
    static final int N = 2;
    static final int C = 1;
    static final int ALL_FLAGS = S | Z | H | P | N | C;

    /** Where no access waits and nothing is ROM. */
    static final int CODE = 2048;

    private static final int[] ASKED_BYTES = {0, 1, 56, 1023, 1024, 2047, 2048, 2049, 3000, 4094, 4095};

    private Boards() {
    }

    static SpectrumBoard with(int... code) {
        SpectrumBoard board = new SpectrumBoard();
        load(board, CODE, code);
        board.set(PC, CODE);
        return board;
    }

    static void load(SpectrumBoard board, int address, int... bytes) {
        int place = address;
        for (int value : bytes) {
            place = board.poke(place, value << 24, 1);
        }
    }

    /** T is made exact by instructions of 7 T, and HALT, whose 4 T need no access. */
    static SpectrumBoard at(int time, int... code) {
        SpectrumBoard board = new SpectrumBoard();
        if (time != 0) {
            passTo(board, time);
        }
        load(board, CODE, code);
        board.set(AF, 0);
        board.set(PC, CODE);
        return board;
    }

    static int instructionsToReach(int time) {
        return time == 0 ? 0 : sevens(time) + (time - 7 * sevens(time)) / 4;
    }

    private static int sevens(int time) {
        return 3 * time % 4;
    }

    private static void passTo(SpectrumBoard board, int time) {
        int sevens = sevens(time);
        if (time < 7 * sevens + 4) {
            throw new IllegalStateException("T " + time + " cannot be reached");
        }
        int place = 4000;
        for (int k = 0; k < sevens; k++) {
            load(board, place, 0x3E, 0);
            place += 2;
        }
        load(board, place, 0x76);
        board.set(PC, 4000);
        while (board.count(0) < time) {
            board.run(Math.min(20_000, time - board.count(0)));
        }
        if (board.count(0) != time) {
            throw new IllegalStateException("T is " + board.count(0) + ", not " + time);
        }
    }

    static int a(SpectrumBoard board) {
        return board.get(AF) >> 8;
    }

    static int f(SpectrumBoard board) {
        return board.get(AF) & 255;
    }

    /** What a board answers, in one text, to see whether a call changed something. */
    static String answers(SpectrumBoard board) {
        StringBuilder text = new StringBuilder();
        for (int pair = 0; pair < 10; pair++) {
            text.append(board.get(pair)).append(' ');
        }
        for (int what = 0; what < 8; what++) {
            text.append(board.count(what)).append(' ');
        }
        for (int address : ASKED_BYTES) {
            text.append(board.peek(address)).append(' ');
        }
        return text.append(board.change(0)).toString();
    }
}
