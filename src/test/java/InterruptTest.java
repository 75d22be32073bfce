/** Promise 8: the INTERRUPT of each FRAME. */
public final class InterruptTest {
    private static final Check CHECK = new Check("InterruptTest");

    public static void main(String[] args) {
        onlyInItsPartOfTheFrame();
        onlyIfTheyAreOn();
        notBehindTurningOn();
        itIsAStepOfItsOwn();
        itEndsHalt();
        itComesAgainWithinItsPart();
        itsPushWaits();
        turningOnIsRemembered();
        CHECK.end();
    }

    /** Interrupts on, and T as told before an instruction that is not behind EI. */
    private static SpectrumBoard onAt(int time, int... code) {
        SpectrumBoard board = Boards.at(time - 8, 0xFB, 0);
        board.set(Boards.SP, 0x0E20);
        board.run(5);
        if (board.count(0) != time || board.count(6) != 0) {
            throw new IllegalStateException("T is " + board.count(0));
        }
        Boards.load(board, Boards.CODE, code);
        board.set(Boards.PC, Boards.CODE);
        return board;
    }

    private static void onlyInItsPartOfTheFrame() {
        for (int inFrame : new int[] {-40, -1, 32, 33, 40, 100, 2000}) {
            SpectrumBoard board = onAt(8000 + inFrame, 0);
            board.run(1);
            CHECK.due("interrupts at " + inFrame, board.count(6), 0);
            CHECK.due("PC at " + inFrame, board.get(Boards.PC), Boards.CODE + 1);
        }
        for (int inFrame = 0; inFrame < 8; inFrame++) {
            SpectrumBoard board = onAt(8000 + inFrame, 0);
            board.run(1);
            expectOne(board, 8000 + inFrame);
        }
        for (int inFrame = 26; inFrame < 36; inFrame++) {
            SpectrumBoard board = lateIn(inFrame);
            board.run(1);
            CHECK.due("interrupts late at " + inFrame, board.count(6), inFrame < 32 ? 1 : 0);
        }
    }

    // EI and one instruction more begin within the part, where EI keeps the INTERRUPT away.
    private static SpectrumBoard lateIn(int inFrame) {
        SpectrumBoard board = Boards.at(8000 + inFrame - 8, 0xFB, 0, 0);
        board.set(Boards.SP, 0x0E20);
        board.run(8);
        CHECK.due("T", board.count(0), 8000 + inFrame);
        CHECK.due("no interrupt yet", board.count(6), 0);
        return board;
    }

    private static void expectOne(SpectrumBoard board, int time) {
        CHECK.due("interrupts", board.count(6), 1);
        CHECK.due("PC", board.get(Boards.PC), 56);
        CHECK.due("SP", board.get(Boards.SP), 0x0E1E);
        CHECK.due("pushed lower", board.peek(0x0E1E), Boards.CODE & 255);
        CHECK.due("pushed higher", board.peek(0x0E1F), Boards.CODE >> 8);
        CHECK.due("T", board.count(0), time + 13);
        CHECK.due("they are off", board.count(5), 0);
    }

    private static void onlyIfTheyAreOn() {
        SpectrumBoard board = Boards.at(8000, 0);
        board.run(40);
        CHECK.due("off at first", board.count(5), 0);
        CHECK.due("none came", board.count(6), 0);
        board = Boards.at(7980, 0xFB, 0xF3);
        board.run(4);
        CHECK.due("on", board.count(5), 1);
        board.run(4);
        CHECK.due("off by DI", board.count(5), 0);
        board.run(100);
        CHECK.due("none came behind DI", board.count(6), 0);
    }

    private static void notBehindTurningOn() {
        SpectrumBoard board = Boards.at(8000, 0xFB, 0xFB, 0xFB, 0x3C, 0x3C);
        board.set(Boards.SP, 0x0E20);
        board.run(16);
        CHECK.due("EI by EI keeps it away", board.count(6), 0);
        CHECK.due("the one behind is done", Boards.a(board), 1);
        board.run(1);
        CHECK.due("then it comes", board.count(6), 1);
        CHECK.due("before the next", Boards.a(board), 1);
        board = Boards.at(8000, 0xFB, 0xF3, 0);
        board.run(12);
        CHECK.due("DI behind EI", board.count(6), 0);
    }

    private static void itIsAStepOfItsOwn() {
        SpectrumBoard board = onAt(8000, 0x3C);
        Boards.load(board, 56, 0x04, 0x04);
        int instructions = board.count(7);
        board.run(13);
        CHECK.due("no instruction counted", board.count(7), instructions);
        CHECK.due("none was done", board.get(Boards.BC), 0);
        board.run(1);
        CHECK.due("the one at 56", board.get(Boards.BC), 0x0100);
        board = onAt(8000, 0xDD);
        Boards.load(board, 56, 0xDD);
        CHECK.due("TRAP behind it", board.run(14), false);
        CHECK.due("it has come all the same", board.count(6), 1);
        CHECK.due("T", board.count(0), 8013);
        CHECK.due("PC", board.get(Boards.PC), 56);
    }

    private static void itEndsHalt() {
        SpectrumBoard board = onAt(7990, 0x76, 0x3C);
        Boards.load(board, 56, 0xC9);
        board.run(12);
        CHECK.due("in HALT", board.count(4), 1);
        CHECK.due("T", board.count(0), 8002);
        board.run(1);
        CHECK.due("HALT is over", board.count(4), 0);
        CHECK.due("PC", board.get(Boards.PC), 56);
        board.run(1);
        CHECK.due("back behind HALT", board.get(Boards.PC), Boards.CODE + 1);
        board.run(1);
        CHECK.due("and on", Boards.a(board), 1);
    }

    // At 56: EI, NOP: 8 T behind the 13 of the INTERRUPT it comes again, and no third time.
    private static void itComesAgainWithinItsPart() {
        SpectrumBoard board = onAt(8000, 0);
        Boards.load(board, 56, 0xFB, 0);
        board.run(3000);
        CHECK.due("twice", board.count(6), 2);
        CHECK.due("SP", board.get(Boards.SP), 0x0E1C);
    }

    private static void itsPushWaits() {
        int[] waits = {6, 5, 4, 3, 2, 1, 0, 0};
        for (int k = 0; k < 8; k++) {
            SpectrumBoard board = onAt(8000 + k, 0);
            board.set(Boards.SP, 1500);
            board.run(1);
            int first = 8000 + k + 7;
            int second = first + waits[first % 8] + 3;
            CHECK.due("T of it", board.count(0), second + waits[second % 8] + 3);
        }
    }

    private static void turningOnIsRemembered() {
        SpectrumBoard board = Boards.at(8000, 0xFB, 0xDD);
        board.set(Boards.SP, 0x0E20);
        CHECK.due("run to the TRAP", board.run(100), false);
        CHECK.due("and again, behind EI", board.run(100), false);
        CHECK.due("T", board.count(0), 8004);
        CHECK.due("PC", board.get(Boards.PC), Boards.CODE + 1);
        CHECK.due("no interrupt", board.count(6), 0);
    }
}
