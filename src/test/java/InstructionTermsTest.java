/** Terms: the boundary cases of the INSTRUCTIONS that count, jump, copy, HALT or TRAP. */
public final class InstructionTermsTest {
    private static final Check CHECK = new Check("InstructionTermsTest");

    public static void main(String[] args) {
        countDownToZero();
        distancesFarthestBackAndOn();
        distancesOverTheEnd();
        conditionsByOneFlag();
        firstAndLastRestart();
        pairsOneMoreAndOneLess();
        haltStays();
        haltNeedsNoAccess();
        copyOfTheLastByte();
        copiesUntilTheLastByte();
        copiesOf65536();
        copiesOverThemselves();
        copiesAtTheEndOfMemory();
        trapsBesideInstructions();
        trapLeavesAllAsItWas();
        trapInWaitedMemoryTakesNoTime();
        trapBehindOthers();
        CHECK.end();
    }

    // "B is one less; if it is not 0, + 5 behind d and PC goes on by d"
    private static void countDownToZero() {
        int[][] rows = {
            {1, 0, 2050, 8}, {2, 1, 2066, 13}, {0, 255, 2066, 13}, {255, 254, 2066, 13}, {128, 127, 2066, 13}};
        for (int[] row : rows) {
            SpectrumBoard board = Boards.with(0x10, 0x10);
            board.set(Boards.AF, 0x00D7);
            board.set(Boards.BC, row[0] << 8 | 0x99);
            board.run(1);
            CHECK.due("B of " + row[0], board.get(Boards.BC), row[1] << 8 | 0x99);
            CHECK.due("PC", board.get(Boards.PC), row[2]);
            CHECK.due("T", board.count(0), row[3]);
            CHECK.due("AF", board.get(Boards.AF), 0x00D7);
        }
    }

    // "d: one with a sign"
    private static void distancesFarthestBackAndOn() {
        int[][] rows = {{0, 2050}, {1, 2051}, {127, 2177}, {128, 1922}, {129, 1923}, {254, 2048}, {255, 2049}};
        for (int[] row : rows) {
            for (int code : new int[] {0x18, 0x20, 0x30, 0x10}) {
                SpectrumBoard board = Boards.with(code, row[0]);
                board.run(1);
                CHECK.due(code + " by " + row[0], board.get(Boards.PC), row[1]);
                CHECK.due("T", board.count(0), code == 0x10 ? 13 : 12);
            }
        }
    }

    private static void distancesOverTheEnd() {
        int[][] rows = {
            {0, 253, 65535}, {0, 128, 65410}, {65534, 0, 0}, {65534, 127, 127}, {65533, 0, 65535}, {65407, 127, 0}};
        for (int[] row : rows) {
            SpectrumBoard board = new SpectrumBoard();
            board.poke(row[0] % 4096, 0x18000000 | row[1] << 16, 2);
            board.set(Boards.PC, row[0]);
            board.run(1);
            CHECK.due("JR at " + row[0] + " by " + row[1], board.get(Boards.PC), row[2]);
        }
    }

    // "Conditions c: NZ Z NC C PO PE P M": each goes by its own flag, whatever the others are.
    private static void conditionsByOneFlag() {
        int[] flag = {Boards.Z, Boards.C, Boards.P, Boards.S};
        for (int condition = 0; condition < 8; condition++) {
            int own = flag[condition / 2];
            for (int flags : new int[] {own, Boards.ALL_FLAGS - own, 0, Boards.ALL_FLAGS}) {
                boolean goes = (flags & own) != 0 == (condition % 2 == 1);
                SpectrumBoard board = Boards.with(0xC2 | condition << 3, 0x34, 0x12);
                board.set(Boards.AF, flags);
                board.run(1);
                CHECK.due("JP " + condition + " by " + flags, board.get(Boards.PC), goes ? 0x1234 : 2051);
                CHECK.due("T", board.count(0), 10);
            }
        }
    }

    // "PC is 8 t"
    private static void firstAndLastRestart() {
        for (int t : new int[] {0, 7}) {
            SpectrumBoard board = Boards.with(0xC7 | t << 3);
            board.set(Boards.SP, 3000);
            board.run(1);
            CHECK.due("PC of RST " + t, board.get(Boards.PC), 8 * t);
            CHECK.due("pushed", board.peek(2999) << 8 | board.peek(2998), 2049);
        }
    }

    // "INC p, DEC p: + 2, no flags"
    private static void pairsOneMoreAndOneLess() {
        int[][] rows = {{0, 1}, {255, 256}, {32767, 32768}, {65534, 65535}, {65535, 0}};
        int[] pairs = {Boards.BC, Boards.DE, Boards.HL, Boards.SP};
        for (int[] row : rows) {
            for (int p = 0; p < 4; p++) {
                SpectrumBoard board = Boards.with(p << 4 | 0x03, p << 4 | 0x0B);
                board.set(Boards.AF, 0x00D7);
                board.set(pairs[p], row[0]);
                board.run(1);
                CHECK.due("one more than " + row[0], board.get(pairs[p]), row[1]);
                board.run(1);
                CHECK.due("one less than " + row[1], board.get(pairs[p]), row[0]);
                CHECK.due("AF", board.get(Boards.AF), 0x00D7);
                CHECK.due("T", board.count(0), 12);
            }
        }
    }

    // "76h HALT: it stays at what is behind, + 4 each time, until an INTERRUPT."
    private static void haltStays() {
        for (int place : new int[] {2048, 4095, 65535}) {
            SpectrumBoard board = new SpectrumBoard();
            board.poke(place % 4096, 0x76FD0000, 2);
            board.set(Boards.PC, place);
            for (int times = 1; times <= 20; times++) {
                CHECK.due("run", board.run(1), true);
                CHECK.due("PC", board.get(Boards.PC), (place + 1) % 65536);
                CHECK.due("T", board.count(0), 4 * times);
                CHECK.due("in HALT", board.count(4), 1);
            }
            CHECK.due("over a FRAME, interrupts being off", board.run(8000), true);
            CHECK.due("in HALT", board.count(4), 1);
            CHECK.due("T", board.count(0), 8080);
        }
    }

    // "What is told as + below is T between accesses": only the FETCH of HALT itself waits in waited memory.
    private static void haltNeedsNoAccess() {
        SpectrumBoard board = Boards.at(4040);
        board.poke(1500, 0x76000000, 1);
        board.set(Boards.PC, 1500);
        int[] times = {4050, 4054, 4058, 4062, 4066};
        for (int time : times) {
            board.run(1);
            CHECK.due("T in HALT", board.count(0), time);
        }
    }

    private static SpectrumBoard copying(int code, int bc) {
        SpectrumBoard board = Boards.with(0xED, code);
        board.poke(3000, 0x41424344, 4);
        board.set(Boards.AF, 0x66D7);
        board.set(Boards.HL, 3000);
        board.set(Boards.DE, 3100);
        board.set(Boards.BC, bc);
        board.run(1);
        CHECK.due("copied", board.peek(3100), 0x41);
        CHECK.due("not copied", board.peek(3101), 0);
        CHECK.due("HL", board.get(Boards.HL), 3001);
        CHECK.due("DE", board.get(Boards.DE), 3101);
        CHECK.due("BC of " + bc, board.get(Boards.BC), (bc + 65535) % 65536);
        int others = Boards.S | Boards.Z | Boards.C;
        CHECK.due("AF of " + bc, board.get(Boards.AF), 0x6600 | others | (bc == 1 ? 0 : Boards.P));
        return board;
    }

    // "P whether BC is not 0"
    private static void copyOfTheLastByte() {
        for (int bc : new int[] {0, 1, 2, 256, 257, 65535}) {
            SpectrumBoard board = copying(0xA0, bc);
            CHECK.due("T of LDI", board.count(0), 16);
            CHECK.due("PC of LDI", board.get(Boards.PC), 2050);
        }
    }

    // "LDIR then, if it is not 0, + 5 and PC is at its EDh again"
    private static void copiesUntilTheLastByte() {
        for (int bc : new int[] {0, 1, 2, 256, 257, 65535}) {
            SpectrumBoard board = copying(0xB0, bc);
            CHECK.due("T of LDIR", board.count(0), bc == 1 ? 16 : 21);
            CHECK.due("PC of LDIR", board.get(Boards.PC), bc == 1 ? 2050 : 2048);
        }
    }

    // BC of 0 is 65536 times; each byte goes to where it is, so that the code is kept.
    private static void copiesOf65536() {
        SpectrumBoard board = Boards.with(0xED, 0xB0, 0xFD);
        board.set(Boards.HL, 0);
        board.set(Boards.DE, 0);
        board.set(Boards.BC, 0);
        int runs = 0;
        while (runs < 200 && board.run(20_000)) {
            runs++;
        }
        CHECK.due("BC", board.get(Boards.BC), 0);
        CHECK.due("HL", board.get(Boards.HL), 0);
        CHECK.due("DE", board.get(Boards.DE), 0);
        CHECK.due("PC", board.get(Boards.PC), 2050);
        CHECK.due("instructions", board.count(7), 65536);
        CHECK.due("P", board.get(Boards.AF), 0);
    }

    // What it copies over its own code is what comes next.
    private static void copiesOverThemselves() {
        SpectrumBoard board = Boards.with(0xED, 0xB0);
        board.poke(3000, 0xFD000000, 1);
        board.set(Boards.HL, 3000);
        board.set(Boards.DE, 2048);
        board.set(Boards.BC, 5);
        CHECK.due("LDIR, then its EDh is none", board.run(100), false);
        CHECK.due("PC", board.get(Boards.PC), 2048);
        CHECK.due("T", board.count(0), 21);
        CHECK.due("BC", board.get(Boards.BC), 4);
    }

    private static void copiesAtTheEndOfMemory() {
        SpectrumBoard board = new SpectrumBoard();
        board.poke(4095, 0xEDB0FD00, 3);
        board.set(Boards.PC, 65535);
        board.set(Boards.HL, 65535);
        board.set(Boards.DE, 65535);
        board.set(Boards.BC, 2);
        board.run(1);
        CHECK.due("PC at its EDh", board.get(Boards.PC), 65535);
        CHECK.due("HL", board.get(Boards.HL), 0);
        CHECK.due("DE", board.get(Boards.DE), 0);
        board.run(1);
        CHECK.due("PC behind it", board.get(Boards.PC), 1);
        CHECK.due("T", board.count(0), 37);
    }

    // "SRA, (TRAP), SRL"; "All others, DDh, FDh: TRAP"
    private static void trapsBesideInstructions() {
        int[][] rows = {
            {0xDC, 0, 1}, {0xDD, 0, 0}, {0xDE, 0, 1}, {0xFC, 0, 1}, {0xFD, 0, 0}, {0xFE, 0, 1}, {0xFF, 0, 1},
            {0xCB, 0x2F, 1}, {0xCB, 0x30, 0}, {0xCB, 0x36, 0}, {0xCB, 0x37, 0}, {0xCB, 0x38, 1},
            {0xED, 0x00, 0}, {0xED, 0x40, 0}, {0xED, 0x41, 0}, {0xED, 0x42, 1}, {0xED, 0x43, 0}, {0xED, 0x44, 1},
            {0xED, 0x45, 0}, {0xED, 0x49, 0}, {0xED, 0x4A, 1}, {0xED, 0x4B, 0}, {0xED, 0x4C, 0}, {0xED, 0x54, 0},
            {0xED, 0x72, 1}, {0xED, 0x7A, 1}, {0xED, 0x82, 0}, {0xED, 0x9F, 0}, {0xED, 0xA0, 1}, {0xED, 0xA1, 0},
            {0xED, 0xA8, 0}, {0xED, 0xAF, 0}, {0xED, 0xB0, 1}, {0xED, 0xB1, 0}, {0xED, 0xB8, 0}, {0xED, 0xC2, 0},
            {0xED, 0xED, 0}, {0xED, 0xFF, 0}};
        for (int[] row : rows) {
            SpectrumBoard board = Boards.with(row[0], row[1]);
            CHECK.due("run of " + row[0] + " " + row[1], board.run(1), row[2] == 1);
            CHECK.due("instructions", board.count(7), row[2]);
        }
    }

    private static SpectrumBoard beforeTrap(int place, int first, int second) {
        SpectrumBoard board = Twins.inHalt();
        board.poke(place % 4096, first << 24 | second << 16, 2);
        board.set(Boards.PC, place);
        return board;
    }

    // "TRAP: the RUN ends, all being as it was before it."
    private static void trapLeavesAllAsItWas() {
        int[][] traps = {
            {0xDD, 0x21}, {0xFD, 0x36}, {0xCB, 0x30}, {0xCB, 0x36}, {0xED, 0x45}, {0xED, 0xA8}, {0xED, 0xFF}};
        for (int[] trap : traps) {
            for (int place : new int[] {0, 1023, 1500, 3000, 4095, 65535}) {
                for (int more : new int[] {1, 20_000}) {
                    Twins.unchanged(CHECK, "TRAP of " + trap[0] + " " + trap[1] + " at " + place,
                            () -> beforeTrap(place, trap[0], trap[1]),
                            board -> CHECK.due("run", board.run(more), false));
                }
            }
        }
        Twins.unchanged(CHECK, "TRAP behind EI", InstructionTermsTest::behindEiBeforeTrap,
                board -> CHECK.due("run", board.run(1), false));
    }

    private static SpectrumBoard behindEiBeforeTrap() {
        SpectrumBoard board = Twins.behindEi();
        Boards.load(board, Boards.CODE + 1, 0xDD);
        return board;
    }

    private static void trapInWaitedMemoryTakesNoTime() {
        for (int time = 4040; time < 4048; time++) {
            for (int second : new int[] {0x45, 0x44}) {
                SpectrumBoard board = Boards.at(time);
                board.poke(2047, 0xED000000 | second << 16, 2);
                board.set(Boards.PC, 2047);
                boolean goes = second == 0x44;
                CHECK.due("run", board.run(1), goes);
                int[] waits = {6, 5, 4, 3, 2, 1, 0, 0};
                CHECK.due("T from " + time, board.count(0), goes ? time + waits[time % 8] + 8 : time);
            }
        }
    }

    // What came before the TRAP in the same RUN stays.
    private static void trapBehindOthers() {
        SpectrumBoard board = Boards.with(0x04, 0x3E, 0x17, 0xD3, 254, 0xE5, 0xFB, 0xED, 0x00);
        board.set(Boards.SP, 3000);
        board.set(Boards.HL, 0x0C0D);
        CHECK.due("run", board.run(20_000), false);
        // The port is waited for from 18 to 22.
        int[] want = {4 + 7 + 11 + 4 + 11 + 4, 7, 1, 1, 0, 1, 0, 5};
        for (int what = 0; what <= 7; what++) {
            CHECK.due("count(" + what + ")", board.count(what), want[what]);
        }
        CHECK.due("PC", board.get(Boards.PC), 2055);
        CHECK.due("B", board.get(Boards.BC), 256);
        CHECK.due("pushed", board.peek(2998), 0x0D);
    }
}
