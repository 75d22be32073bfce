/**
 * "What throws changes nothing": two boards are made alike, one gets the call, and both are asked
 * for all that they hold: what answers tell, and what only shows when they go on.
 */
final class Twins {
    /** A board is promised for 512 calls, so each pair of twins is asked for a part of the memory alone. */
    private static final int PART = 256;
    private static final int IN_PLACE = 2100;

    private Twins() {
    }

    interface Maker {
        SpectrumBoard make();
    }

    interface Call {
        void on(SpectrumBoard board);
    }

    /** The call throws that exception and changes nothing, whatever the board has been through. */
    static void refused(Check check, String what, Class<?> exception, Call call) {
        refused(check, what + " in HALT", exception, Twins::inHalt, call);
        refused(check, what + " behind EI", exception, Twins::behindEi, call);
        refused(check, what + " before all", exception, SpectrumBoard::new, call);
    }

    static void refused(Check check, String what, Class<?> exception, Maker maker, Call call) {
        unchanged(check, what, maker, board -> check.thrown(what, exception, () -> call.on(board)));
    }

    static void unchanged(Check check, String what, Maker maker, Call call) {
        for (int first = 0; first < 4096; first += PART) {
            SpectrumBoard board = maker.make();
            SpectrumBoard twin = maker.make();
            call.on(board);
            check.same(what + " and bytes from " + first, everything(board, first), everything(twin, first));
        }
    }

    /** Nothing of it is as in a new board; three edges are there, one of them is to come. */
    static SpectrumBoard inHalt() {
        SpectrumBoard board = new SpectrumBoard();
        for (int place = 0; place < 4096; place += PART) {
            board.poke(place, 0x12345678 + place, 4);
        }
        for (int row = 0; row < 8; row++) {
            board.key(row, 31 - row);
        }
        board.edge(1000);
        board.edge(2000);
        board.edge(1500);
        speakerMoved(board);
        for (int pair = 0; pair < 9; pair++) {
            board.set(pair, 0x0B41 + 0x1101 * pair);
        }
        return board;
    }

    // At each INTERRUPT, which come at 8 and 4000, the speaker goes to 1, 0, 1: five changes in all.
    private static void speakerMoved(SpectrumBoard board) {
        Boards.load(board, Boards.CODE, 0xFB, 0x76);
        Boards.load(board, 56, 0x3E, 0x10, 0xD3, 254, 0xAF, 0xD3, 254, 0x3E, 0x15, 0xD3, 254, 0xFB, 0x76);
        board.set(Boards.SP, 3000);
        board.set(Boards.PC, Boards.CODE);
        board.run(4100);
    }

    /** Where only the EI before keeps the INTERRUPT away. */
    static SpectrumBoard behindEi() {
        SpectrumBoard board = Boards.at(8000, 0xFB, 0x3C, 0x3C);
        board.set(Boards.SP, 3000);
        board.run(1);
        return board;
    }

    static SpectrumBoard withFullTape() {
        SpectrumBoard board = Boards.at(2100);
        for (int many = 1; many <= 64; many++) {
            board.edge(40);
        }
        return board;
    }

    private static String everything(SpectrumBoard board, int firstByte) {
        StringBuilder text = new StringBuilder(Boards.answers(board));
        for (int k = 0; k < 6; k++) {
            text.append(" change ").append(board.change(k));
        }
        for (int k = 0; k < PART; k++) {
            text.append(' ').append(board.peek(firstByte + k));
        }
        for (int k = 0; k < 3; k++) {
            text.append(" run ").append(board.run(1)).append(' ').append(board.get(Boards.PC));
            text.append(' ').append(board.count(0)).append(' ').append(board.count(6));
        }
        return text.append(rows(board)).append(tape(board)).toString();
    }

    private static String rows(SpectrumBoard board) {
        StringBuilder text = new StringBuilder(" rows");
        board.poke(IN_PLACE, 0xDBFE7600, 3);
        for (int row = 0; row < 8; row++) {
            text.append(' ').append(in(board, 255 & ~(1 << row)));
        }
        return text.toString();
    }

    // When the last edge came shows by the next ones: one that has come, one that is far.
    private static String tape(SpectrumBoard board) {
        StringBuilder text = new StringBuilder(" tape");
        for (int k = 0; k < 16; k++) {
            text.append(' ').append(in(board, 255));
            board.run(37);
        }
        for (int gap : new int[] {1, 100_000}) {
            text.append(" edge ").append(edge(board, gap)).append(' ').append(in(board, 255));
        }
        return text.toString();
    }

    private static int edge(SpectrumBoard board, int gap) {
        try {
            return board.edge(gap);
        } catch (IllegalStateException e) {
            return SpectrumBoard.NONE;
        }
    }

    private static int in(SpectrumBoard board, int above) {
        board.set(Boards.AF, above << 8);
        board.set(Boards.PC, IN_PLACE);
        board.run(1);
        return Boards.a(board);
    }
}
