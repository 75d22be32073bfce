/** Terms: the boundary cases of the INTERRUPT. */
public final class InterruptTermsTest {
    private static final Check CHECK = new Check("InterruptTermsTest");

    public static void main(String[] args) {
        offAtFirst();
        partOfTheFrame();
        partOfTheFirstFrame();
        notBehindEi();
        behindEiItMayBeMissed();
        notBehindDi();
        turnedOffByItself();
        whatItDoes();
        pcAndSpOverTheEnd();
        itIsMissedByALongInstruction();
        haltGoesOnBehindIt();
        haltBehindEi();
        haltAtTheEnd();
        itComesBetweenCopies();
        itMayEndTheRun();
        CHECK.end();
    }

    /** EI and NOP end at that T; what comes next may be an INTERRUPT. */
    private static SpectrumBoard turnedOnAt(int time) {
        SpectrumBoard board = Boards.at(time - 8, 0xFB, 0x00, 0x3C);
        board.set(Boards.SP, 3000);
        board.run(8);
        CHECK.due("T", board.count(0), time);
        CHECK.due("on", board.count(5), 1);
        CHECK.due("none yet", board.count(6), 0);
        return board;
    }

    // "off at first"
    private static void offAtFirst() {
        SpectrumBoard board = new SpectrumBoard();
        CHECK.due("off", board.count(5), 0);
        board.run(20_000);
        CHECK.due("off", board.count(5), 0);
        CHECK.due("none came", board.count(6), 0);
        CHECK.due("SP", board.get(Boards.SP), 0);
    }

    // "T modulo 4000 is below 32"
    private static void partOfTheFrame() {
        int[][] rows = {
            {-4, 0}, {-1, 0}, {0, 1}, {1, 1}, {30, 1}, {31, 1}, {32, 0}, {33, 0}, {64, 0}, {100, 0}, {2000, 0},
            {3968, 0}};
        for (int frame : new int[] {4000, 8000, 40_000}) {
            for (int[] row : rows) {
                SpectrumBoard board = turnedOnAt(frame + row[0]);
                board.run(1);
                String what = row[0] + " T into " + frame;
                CHECK.due("INTERRUPTS " + what, board.count(6), row[1]);
                CHECK.due("A " + what, Boards.a(board), 1 - row[1]);
                CHECK.due("T " + what, board.count(0), frame + row[0] + (row[1] == 1 ? 13 : 4));
            }
        }
    }

    // The first FRAME begins at 0.
    private static void partOfTheFirstFrame() {
        for (int many = 0; many <= 7; many++) {
            SpectrumBoard board = new SpectrumBoard();
            Boards.load(board, Boards.CODE + many, 0xFB, 0x00, 0x3C);
            board.set(Boards.SP, 3000);
            board.set(Boards.PC, Boards.CODE);
            board.run(4 * many + 8);
            CHECK.due("none yet", board.count(6), 0);
            board.run(1);
            CHECK.due("INTERRUPTS at " + (4 * many + 8), board.count(6), 4 * many + 8 < 32 ? 1 : 0);
        }
    }

    // "and the one before was no EI"
    private static void notBehindEi() {
        SpectrumBoard board = Boards.at(4000, 0xFB, 0x3C, 0x3C);
        board.set(Boards.SP, 3000);
        board.run(1);
        board.run(1);
        CHECK.due("none behind EI", board.count(6), 0);
        CHECK.due("A", Boards.a(board), 1);
        board.run(1);
        CHECK.due("one behind that", board.count(6), 1);
        CHECK.due("A", Boards.a(board), 1);
        board = turnedOnAt(3996);
        Boards.load(board, Boards.CODE + 2, 0xFB, 0xFB, 0x3C, 0x3C);
        board.run(12);
        CHECK.due("none behind EI, though they were on", board.count(6), 0);
        CHECK.due("A", Boards.a(board), 1);
        board.run(1);
        CHECK.due("one then", board.count(6), 1);
    }

    // EI from 4024 to 4028 and INC A to 4032: it comes in the next FRAME.
    private static void behindEiItMayBeMissed() {
        for (int time : new int[] {4023, 4024}) {
            SpectrumBoard board = Boards.at(time, 0xFB, 0x3C, 0x3C, 0x76);
            board.set(Boards.SP, 3000);
            board.run(13);
            CHECK.due("INTERRUPTS behind EI at " + time, board.count(6), time == 4023 ? 1 : 0);
            board.run(3960);
            CHECK.due("none more before the next FRAME", board.count(6), time == 4023 ? 1 : 0);
            board.run(40);
            CHECK.due("INTERRUPTS of the next FRAME", board.count(6), 1);
        }
    }

    // "DI and each INTERRUPT off"
    private static void notBehindDi() {
        SpectrumBoard board = turnedOnAt(3990);
        Boards.load(board, Boards.CODE + 2, 0xF3);
        board.run(1);
        CHECK.due("off", board.count(5), 0);
        board.run(100);
        CHECK.due("none", board.count(6), 0);
        board = Boards.at(4000, 0xFB, 0xF3);
        board.run(100);
        CHECK.due("none behind EI and DI", board.count(6), 0);
    }

    private static void turnedOffByItself() {
        SpectrumBoard board = turnedOnAt(4000);
        board.run(1);
        CHECK.due("off", board.count(5), 0);
        board.run(8000);
        CHECK.due("no other one", board.count(6), 1);
    }

    // "they are off, + 7, PC is pushed, PC is 56"
    private static void whatItDoes() {
        SpectrumBoard board = turnedOnAt(4000);
        int instructions = board.count(7);
        board.set(Boards.AF, 0x12D7);
        board.set(Boards.BC, 0x1111);
        board.set(Boards.DE, 0x2222);
        board.set(Boards.HL, 0x3333);
        board.set(Boards.PC, 0xFEDC);
        board.run(1);
        int[] pairs = {0x12D7, 0x1111, 0x2222, 0x3333, 0, 0, 0, 0, 2998, 56};
        int[] counts = {4013, 0, 0, 0, 0, 0, 1, instructions};
        for (int pair = 0; pair < pairs.length; pair++) {
            CHECK.due("get(" + pair + ")", board.get(pair), pairs[pair]);
        }
        for (int what = 0; what < counts.length; what++) {
            CHECK.due("count(" + what + ")", board.count(what), counts[what]);
        }
        CHECK.due("higher", board.peek(2999), 0xFE);
        CHECK.due("lower", board.peek(2998), 0xDC);
    }

    private static void pcAndSpOverTheEnd() {
        int[][] rows = {{0, 65534}, {1, 65535}, {2, 0}, {65535, 65533}};
        for (int[] row : rows) {
            for (int pc : new int[] {0, 65535}) {
                SpectrumBoard board = turnedOnAt(4000);
                board.set(Boards.SP, row[0]);
                board.set(Boards.PC, pc);
                board.run(1);
                int higher = (row[0] + 65535) % 4096;
                int lower = (row[0] + 65534) % 4096;
                CHECK.due("SP of " + row[0], board.get(Boards.SP), row[1]);
                CHECK.due("higher", board.peek(higher), higher <= 1023 ? 0 : pc >> 8);
                CHECK.due("lower", board.peek(lower), lower <= 1023 ? 0 : pc & 255);
                CHECK.due("T", board.count(0), 4013);
            }
        }
    }

    // EX (SP),HL begins at 3999, waits 3, 5, 4 and 5 T for its pair, and ends at 4035.
    private static void itIsMissedByALongInstruction() {
        SpectrumBoard board = turnedOnAt(3999);
        Boards.load(board, Boards.CODE + 2, 0xE3, 0x3C);
        board.set(Boards.SP, 1500);
        board.run(1);
        CHECK.due("T", board.count(0), 4035);
        board.run(1);
        CHECK.due("none", board.count(6), 0);
        CHECK.due("A", Boards.a(board), 1);
    }

    // "(In HALT this goes on behind it.)"
    private static void haltGoesOnBehindIt() {
        SpectrumBoard board = turnedOnAt(3990);
        Boards.load(board, Boards.CODE + 2, 0x76, 0x3C);
        Boards.load(board, 56, 0xC9);
        board.run(12);
        CHECK.due("T", board.count(0), 4002);
        CHECK.due("in HALT", board.count(4), 1);
        board.run(1);
        CHECK.due("out of HALT", board.count(4), 0);
        CHECK.due("PC", board.get(Boards.PC), 56);
        CHECK.due("T", board.count(0), 4015);
        CHECK.due("pushed", board.peek(2999) << 8 | board.peek(2998), Boards.CODE + 3);
        board.run(10);
        CHECK.due("PC behind HALT", board.get(Boards.PC), Boards.CODE + 3);
        board.run(1);
        CHECK.due("A", Boards.a(board), 1);
    }

    // HALT itself is behind EI, and done; it is HALT that is before the INTERRUPT.
    private static void haltBehindEi() {
        SpectrumBoard board = Boards.at(4000, 0xFB, 0x76);
        board.set(Boards.SP, 3000);
        board.run(8);
        CHECK.due("in HALT", board.count(4), 1);
        CHECK.due("none", board.count(6), 0);
        board.run(1);
        CHECK.due("one", board.count(6), 1);
        CHECK.due("T", board.count(0), 4021);
        CHECK.due("pushed", board.peek(2999) << 8 | board.peek(2998), Boards.CODE + 2);
    }

    private static void haltAtTheEnd() {
        SpectrumBoard board = turnedOnAt(3992);
        board.poke(4095, 0x76000000, 1);
        board.set(Boards.PC, 65535);
        board.run(4);
        CHECK.due("PC in HALT", board.get(Boards.PC), 0);
        board.run(5);
        CHECK.due("INTERRUPTS", board.count(6), 1);
        CHECK.due("pushed", board.peek(2999) << 8 | board.peek(2998), 0);
    }

    // LDIR is at its EDh again when the INTERRUPT comes, and goes on behind it.
    private static void itComesBetweenCopies() {
        SpectrumBoard board = turnedOnAt(3980);
        Boards.load(board, Boards.CODE + 2, 0xED, 0xB0);
        Boards.load(board, 56, 0xC9);
        board.set(Boards.HL, 3500);
        board.set(Boards.DE, 3600);
        board.set(Boards.BC, 3);
        board.run(21);
        CHECK.due("T", board.count(0), 4001);
        CHECK.due("BC", board.get(Boards.BC), 2);
        board.run(1);
        CHECK.due("INTERRUPTS", board.count(6), 1);
        CHECK.due("pushed", board.peek(2999) << 8 | board.peek(2998), Boards.CODE + 2);
        board.run(10 + 21 + 16);
        CHECK.due("T behind it", board.count(0), 4001 + 13 + 10 + 21 + 16);
        CHECK.due("BC behind it", board.get(Boards.BC), 0);
        CHECK.due("PC behind it", board.get(Boards.PC), Boards.CODE + 4);
    }

    // Promise 8: "instructions, and INTERRUPTS, one behind the other, until T is as much more as told"
    private static void itMayEndTheRun() {
        for (int more : new int[] {1, 12, 13, 14, 17, 18}) {
            SpectrumBoard board = turnedOnAt(4000);
            Boards.load(board, 56, 0x04, 0x04, 0x04);
            CHECK.due("run", board.run(more), true);
            int done = more <= 13 ? 0 : more <= 17 ? 1 : 2;
            CHECK.due("B behind run(" + more + ")", board.get(Boards.BC), done << 8);
            CHECK.due("T", board.count(0), 4013 + 4 * done);
        }
    }
}
