/** Terms: the boundary cases of MEMORY, ROM, what is WAITED for, and the picture. */
public final class MemoryTermsTest {
    private static final Check CHECK = new Check("MemoryTermsTest");
    private static final int[] WAITS = {6, 5, 4, 3, 2, 1, 0, 0};
    /** A T at which no picture is drawn, and a place for code. */
    private static final int QUIET = 2100;
    private static final int PLACE = 2300;

    public static void main(String[] args) {
        readAddressesAreTakenModulo();
        writtenAddressesAreTakenModulo();
        pairsGoOverTheEnd();
        instructionsGoOverTheEnd();
        writesIntoRomAreDropped();
        interruptIntoRomIsDropped();
        waitedMemoryBeginsAndEnds();
        evenPortsAreWaitedFor();
        pictureBeginsAndEnds();
        pictureOfEachT();
        waitsGoByTModuloEight();
        waitGoesBeyondThePicture();
        CHECK.end();
    }

    private static SpectrumBoard ready(int pair, int address, int... code) {
        SpectrumBoard board = Boards.with(code);
        board.set(Boards.AF, 0xA100);
        board.set(Boards.HL, 0x0C0D);
        board.set(pair, address);
        return board;
    }

    // "MEMORY has 4096 bytes; addresses of 16 bits are taken modulo that."
    private static void readAddressesAreTakenModulo() {
        int[][] rows = {{0, 0}, {4095, 4095}, {4096, 0}, {4097, 1}, {8191, 4095}, {8192, 0}, {61440, 0}, {65535, 4095}};
        int[][] codes = {{Boards.BC, 0x0A}, {Boards.DE, 0x1A}, {Boards.HL, 0x7E}};
        for (int[] row : rows) {
            for (int[] code : codes) {
                SpectrumBoard board = ready(code[0], row[0], code[1]);
                board.poke(row[1], 0x3D000000, 1);
                board.run(1);
                CHECK.due("A from " + row[0] + " by " + code[1], Boards.a(board), 0x3D);
                CHECK.due("the pair stays", board.get(code[0]), row[0]);
            }
            SpectrumBoard board = Boards.with(0x3A, row[0] & 255, row[0] >> 8);
            board.poke(row[1], 0x3D000000, 1);
            board.run(1);
            CHECK.due("A from (" + row[0] + ")", Boards.a(board), 0x3D);
        }
    }

    private static void writtenAddressesAreTakenModulo() {
        int[][] rows = {{4095, 4095}, {5120, 1024}, {8191, 4095}, {62464, 1024}, {65535, 4095}};
        int[][] codes = {{Boards.BC, 0x02}, {Boards.DE, 0x12}, {Boards.HL, 0x77}};
        for (int[] row : rows) {
            for (int[] code : codes) {
                SpectrumBoard board = ready(code[0], row[0], code[1]);
                board.run(1);
                CHECK.due("A to " + row[0] + " by " + code[1], board.peek(row[1]), 0xA1);
            }
            SpectrumBoard board = ready(Boards.BC, 0, 0x32, row[0] & 255, row[0] >> 8);
            board.run(1);
            CHECK.due("A to (" + row[0] + ")", board.peek(row[1]), 0xA1);
        }
    }

    private static void pairsGoOverTheEnd() {
        for (int address : new int[] {4095, 8191, 65535}) {
            SpectrumBoard board = Boards.with(0x2A, address & 255, address >> 8);
            board.poke(4095, 0x3D4E0000, 2);
            board.run(1);
            CHECK.due("LD HL,(" + address + ")", board.get(Boards.HL), 0x4E3D);
            board = ready(Boards.SP, address, 0xD1);
            board.poke(4095, 0x3D4E0000, 2);
            board.run(1);
            CHECK.due("POP at " + address, board.get(Boards.DE), 0x4E3D);
            CHECK.due("SP", board.get(Boards.SP), (address + 2) % 65536);
            board = ready(Boards.SP, (address + 2) % 65536, 0xE5);
            board.run(1);
            CHECK.due("PUSH, lower at 4095", board.peek(4095), 0x0D);
            CHECK.due("PUSH, higher into ROM", board.peek(0), 0);
            CHECK.due("SP", board.get(Boards.SP), address);
        }
        SpectrumBoard board = ready(Boards.SP, 0, 0xE5);
        board.run(1);
        CHECK.due("SP before 0", board.get(Boards.SP), 65534);
        CHECK.due("higher", board.peek(4095), 0x0C);
        CHECK.due("lower", board.peek(4094), 0x0D);
    }

    private static void instructionsGoOverTheEnd() {
        int[][] rows = {{4094, 4097}, {4095, 4098}, {8191, 8194}, {65533, 0}, {65534, 1}, {65535, 2}};
        for (int[] row : rows) {
            SpectrumBoard board = new SpectrumBoard();
            board.poke(row[0] % 4096, 0x21341200, 3);
            board.set(Boards.PC, row[0]);
            board.run(1);
            CHECK.due("LD HL,nn at " + row[0], board.get(Boards.HL), 0x1234);
            CHECK.due("PC behind " + row[0], board.get(Boards.PC), row[1]);
        }
        SpectrumBoard board = new SpectrumBoard();
        board.poke(4095, 0xCB3F0000, 2);
        board.set(Boards.AF, 0x0200);
        board.set(Boards.PC, 65535);
        board.run(1);
        CHECK.due("CBh over the end", Boards.a(board), 1);
        CHECK.due("PC", board.get(Boards.PC), 1);
        callsGoOverTheEnd();
    }

    private static void callsGoOverTheEnd() {
        for (int place : new int[] {65532, 65533, 65534}) {
            SpectrumBoard board = new SpectrumBoard();
            board.poke(place % 4096, 0xCD341200, 3);
            board.set(Boards.SP, 3000);
            board.set(Boards.PC, place);
            board.run(1);
            CHECK.due("CALL at " + place, board.get(Boards.PC), 0x1234);
            CHECK.due("pushed", board.peek(2999) << 8 | board.peek(2998), (place + 3) % 65536);
        }
    }

    /** A way in which the Z80 writes a byte: by a pair, or by nn (pair NONE), that is so far from its address. */
    private static void written(String what, int due, int time, int pair, int distance, int... code) {
        for (int address : new int[] {0, 1, 1022, 1023, 1024, 1025, 2047, 3000, 4094, 4095}) {
            for (int above : new int[] {0, 4096, 61440}) {
                int told = address + above + distance & 65535;
                SpectrumBoard board = Boards.at(QUIET);
                int[] bytes = code.clone();
                if (pair == SpectrumBoard.NONE) {
                    bytes[1] = told & 255;
                    bytes[2] = told >> 8;
                }
                Boards.load(board, PLACE, bytes);
                board.poke(address, 0x5C000000, 1);
                board.set(Boards.AF, 0xA101);
                board.set(Boards.HL, 0x0C0D);
                board.set(Boards.BC, 2);
                board.set(Boards.PC, PLACE);
                if (pair != SpectrumBoard.NONE) {
                    board.set(pair, told);
                }
                board.run(1);
                CHECK.due(what + " at " + (address + above), board.peek(address), address <= 1023 ? 0x5C : due);
                CHECK.due("T of " + what, board.count(0), QUIET + time);
            }
        }
    }

    // "0 .. 1023 is ROM (what the Z80 writes there is dropped)", but it takes its time.
    private static void writesIntoRomAreDropped() {
        written("LD (BC),A", 0xA1, 7, Boards.BC, 0, 0x02);
        written("LD (DE),A", 0xA1, 7, Boards.DE, 0, 0x12);
        written("LD (HL),A", 0xA1, 7, Boards.HL, 0, 0x77);
        written("LD (HL),C", 0x02, 7, Boards.HL, 0, 0x71);
        written("LD (HL),n", 0x99, 10, Boards.HL, 0, 0x36, 0x99);
        written("LD (nn),A", 0xA1, 13, SpectrumBoard.NONE, 0, 0x32, 0, 0);
        written("LD (nn),HL lower", 0x0D, 16, SpectrumBoard.NONE, 0, 0x22, 0, 0);
        written("LD (nn),HL higher", 0x0C, 16, SpectrumBoard.NONE, -1, 0x22, 0, 0);
        written("INC (HL)", 0x5D, 11, Boards.HL, 0, 0x34);
        written("DEC (HL)", 0x5B, 11, Boards.HL, 0, 0x35);
        written("RL (HL)", 0xB9, 15, Boards.HL, 0, 0xCB, 0x16);
        written("RES 2,(HL)", 0x58, 15, Boards.HL, 0, 0xCB, 0x96);
        written("SET 7,(HL)", 0xDC, 15, Boards.HL, 0, 0xCB, 0xFE);
        written("PUSH higher", 0x0C, 11, Boards.SP, 1, 0xE5);
        written("PUSH lower", 0x0D, 11, Boards.SP, 2, 0xE5);
        written("CALL higher", 2303 >> 8, 17, Boards.SP, 1, 0xCD, 0x00, 0x0C);
        written("CALL lower", 2303 & 255, 17, Boards.SP, 2, 0xCD, 0x00, 0x0C);
        written("RST higher", 2301 >> 8, 11, Boards.SP, 1, 0xFF);
        written("RST lower", 2301 & 255, 11, Boards.SP, 2, 0xFF);
        written("EX (SP),HL lower", 0x0D, 19, Boards.SP, 0, 0xE3);
        written("EX (SP),HL higher", 0x0C, 19, Boards.SP, -1, 0xE3);
        copiesIntoRomAreDropped();
    }

    private static void copiesIntoRomAreDropped() {
        SpectrumBoard board = Boards.with(0xED, 0xB0, 0xFD);
        board.poke(3000, 0x11121314, 4);
        board.poke(1022, 0x5C5C5C5C, 4);
        board.set(Boards.HL, 3000);
        board.set(Boards.DE, 1022);
        board.set(Boards.BC, 4);
        CHECK.due("LDIR to its end", board.run(200), false);
        int[] want = {0x5C, 0x5C, 0x13, 0x14};
        for (int k = 0; k < 4; k++) {
            CHECK.due("copied to " + (1022 + k), board.peek(1022 + k), want[k]);
        }
        CHECK.due("DE", board.get(Boards.DE), 1026);
        board = Boards.with(0xED, 0xA0);
        board.poke(3000, 0x11000000, 1);
        board.set(Boards.HL, 3000);
        board.set(Boards.DE, 65536 - 4096);
        board.run(1);
        CHECK.due("LDI to 0", board.peek(0), 0);
    }

    private static void interruptIntoRomIsDropped() {
        for (int sp : new int[] {1024, 1025, 1026, 1}) {
            SpectrumBoard board = Boards.at(7992, 0xFB, 0x00);
            board.set(Boards.SP, sp);
            board.run(8);
            board.set(Boards.PC, 0x0C0D);
            board.run(1);
            int higher = (sp + 4095) % 4096;
            int lower = (sp + 4094) % 4096;
            CHECK.due("INTERRUPT", board.count(6), 1);
            CHECK.due("higher at " + higher, board.peek(higher), higher <= 1023 ? 0 : 0x0C);
            CHECK.due("lower at " + lower, board.peek(lower), lower <= 1023 ? 0 : 0x0D);
        }
    }

    // "1024 .. 2047 is WAITED for": an access at 4040 waits 6 there.
    private static void waitedMemoryBeginsAndEnds() {
        int[][] rows = {{0, 0}, {1023, 0}, {1024, 6}, {1025, 6}, {2046, 6}, {2047, 6}, {2048, 0}, {4095, 0}};
        for (int[] row : rows) {
            for (int above = 0; above < 65536; above += 4096) {
                int address = row[0] + above;
                SpectrumBoard board = Boards.at(4040);
                board.set(Boards.PC, address);
                board.poke(row[0], 0, 1);
                board.run(1);
                CHECK.due("FETCH at " + address, board.count(0), 4040 + row[1] + 4);
                board = Boards.at(4036, 0x7E);
                board.set(Boards.HL, address);
                board.run(1);
                CHECK.due("reading at " + address, board.count(0), 4040 + row[1] + 3);
                board = Boards.at(4036, 0x77);
                board.set(Boards.HL, address);
                board.run(1);
                CHECK.due("writing at " + address, board.count(0), 4040 + row[1] + 3);
            }
        }
    }

    // "it WAITS before it if .. the port is even": the port is accessed at 4040.
    private static void evenPortsAreWaitedFor() {
        for (int port : new int[] {0, 1, 2, 127, 128, 252, 253, 254, 255}) {
            for (int code : new int[] {0xD3, 0xDB}) {
                SpectrumBoard board = Boards.at(4033, code, port);
                board.run(1);
                CHECK.due("T of port " + port, board.count(0), 4040 + (port % 2 == 0 ? 6 : 0) + 4);
            }
        }
    }

    private static int fetchAt(int time) {
        SpectrumBoard board = Boards.at(time);
        board.poke(1500, 0, 1);
        board.set(Boards.PC, 1500);
        board.run(1);
        return board.count(0) - time - 4;
    }

    // "The picture is drawn in the first 64 T of the first 20 LINES of a FRAME"
    private static void pictureBeginsAndEnds() {
        int[][] rows = {
            {0, 6}, {61, 1}, {62, 0}, {63, 0}, {64, 0}, {65, 0}, {96, 0}, {99, 0}, {100, 2}, {161, 5}, {163, 3},
            {164, 0}, {199, 0}, {200, 6}, {1899, 0}, {1900, 2}, {1963, 3}, {1964, 0}, {1999, 0}, {2000, 0},
            {2001, 0},
            {2057, 0}, {2100, 0}, {3900, 0}, {3992, 0}, {3999, 0}, {4000, 6}, {4001, 5}, {4064, 0}, {4100, 2},
            {5963, 3}, {5964, 0}, {6000, 0}, {7999, 0}, {8000, 6}};
        for (int[] row : rows) {
            CHECK.due("WAIT at " + row[0], fetchAt(row[0]), row[1]);
        }
    }

    private static void pictureOfEachT() {
        boolean[] drawn = new boolean[8000];
        for (int line = 0; line < 20; line++) {
            for (int t = 0; t < 64; t++) {
                drawn[100 * line + t] = true;
                drawn[4000 + 100 * line + t] = true;
            }
        }
        for (int time = 25; time < drawn.length; time++) {
            CHECK.due("WAIT at " + time, fetchAt(time), drawn[time] ? WAITS[time % 8] : 0);
        }
    }

    // "WAITS 6, 5, 4, 3, 2, 1, 0, 0 T, by T modulo 8": not by the place in the LINE, which is 4 more here.
    private static void waitsGoByTModuloEight() {
        int[] want = {2, 1, 0, 0, 6, 5, 4, 3};
        for (int k = 0; k < 8; k++) {
            CHECK.due("WAIT " + k + " T into LINE 1", fetchAt(100 + k), want[k]);
            CHECK.due("WAIT " + k + " T into LINE 19", fetchAt(1900 + k), want[k]);
            CHECK.due("WAIT " + k + " T into a FRAME", fetchAt(4000 + k), WAITS[k]);
        }
    }

    // "an access that begins then": at 160, 60 T into its LINE, it waits until 166, where nothing is drawn.
    private static void waitGoesBeyondThePicture() {
        CHECK.due("WAIT at 160", fetchAt(160), 6);
        // LD A,(HL) at 1500 fetches until 170, and does not wait for its byte at 1600.
        SpectrumBoard board = Boards.at(160);
        board.poke(1500, 0x7E000000, 1);
        board.set(Boards.HL, 1600);
        board.set(Boards.PC, 1500);
        board.run(1);
        CHECK.due("T behind both", board.count(0), 173);
        // nn is read from 97 and from 100 on, where nothing waits; the pair from 103 on (0) and from 106 on (4).
        board = Boards.at(93, 0x2A, 0xDC, 0x05);
        board.run(1);
        CHECK.due("T of LD HL,(1500)", board.count(0), 113);
    }
}
