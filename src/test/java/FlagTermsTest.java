/** Terms: the boundary cases of F, by numbers worked out by hand. */
public final class FlagTermsTest {
    private static final Check CHECK = new Check("FlagTermsTest");
    private static final int S = Boards.S;
    private static final int Z = Boards.Z;
    private static final int H = Boards.H;
    private static final int P = Boards.P;
    private static final int N = Boards.N;
    private static final int C = Boards.C;
    private static final int OTHER_BITS = 8 | 32;

    public static void main(String[] args) {
        otherBitsAreZeroWhenTold();
        otherBitsAreZeroWhenPopped();
        otherBitsAreZeroBehindEachInstruction();
        sums();
        differences();
        comparisonLeavesA();
        logicals();
        oneMoreAndOneLess();
        negation();
        sumsOfPairs();
        differencesOfPairs();
        decimalAboveNine();
        decimalAbove153();
        decimalTakenOff();
        bitsThatGoOut();
        bitsThatAreTested();
        CHECK.end();
    }

    // "its other bits are 0, also when it is .. told"
    private static void otherBitsAreZeroWhenTold() {
        int[][] rows = {{0, 0}, {8, 0}, {32, 0}, {40, 0}, {0xD7, 0xD7}, {0xFF, 0xD7}, {0x29, 1}, {0xFE, 0xD6}};
        for (int[] row : rows) {
            SpectrumBoard board = Boards.with(0x08);
            board.set(0, 0x1100 | row[0]);
            board.set(4, 0x2200 | row[0]);
            CHECK.due("AF told " + row[0], board.get(0), 0x1100 | row[1]);
            CHECK.due("AF' told " + row[0], board.get(4), 0x2200 | row[1]);
            board.run(1);
            CHECK.due("AF behind EX", board.get(0), 0x2200 | row[1]);
            CHECK.due("AF' behind EX", board.get(4), 0x1100 | row[1]);
        }
        SpectrumBoard board = new SpectrumBoard();
        for (int pair : new int[] {1, 2, 3, 5, 6, 7, 8, 9}) {
            board.set(pair, 0xFF28);
            CHECK.due("no flags in " + pair, board.get(pair), 0xFF28);
        }
    }

    // "its other bits are 0, also when it is popped"
    private static void otherBitsAreZeroWhenPopped() {
        for (int flags = 0; flags < 256; flags++) {
            SpectrumBoard board = Boards.with(0xF1, 0xF5);
            board.poke(3000, flags << 24 | 0xFF0000, 2);
            board.set(Boards.SP, 3000);
            board.run(1);
            CHECK.due("POP AF of " + flags, board.get(Boards.AF), 0xFF00 | flags & ~OTHER_BITS);
            board.run(1);
            CHECK.due("PUSH AF of " + flags, board.peek(3000), flags & ~OTHER_BITS);
            CHECK.due("A of " + flags, board.peek(3001), 0xFF);
        }
        SpectrumBoard board = Boards.with(0xC1);
        board.poke(3000, 0x28FF0000, 2);
        board.set(Boards.SP, 3000);
        board.run(1);
        CHECK.due("POP BC keeps all", board.get(Boards.BC), 0xFF28);
    }

    // "its other bits are 0"
    private static void otherBitsAreZeroBehindEachInstruction() {
        int[][] prefixes = {{}, {0xCB}, {0xED}};
        for (int[] prefix : prefixes) {
            for (int code = 0; code < 256; code++) {
                for (int a : new int[] {0x28, 0xFF}) {
                    SpectrumBoard board = new SpectrumBoard();
                    Boards.load(board, Boards.CODE, prefix);
                    Boards.load(board, Boards.CODE + prefix.length, code, 0x28, 0x28);
                    board.set(Boards.AF, a << 8 | 0xFF);
                    board.set(Boards.BC, 0x2828);
                    board.set(Boards.DE, 0x2828);
                    board.set(Boards.HL, 0x2828);
                    board.set(Boards.SP, 0x2828);
                    board.set(Boards.PC, Boards.CODE);
                    board.run(1);
                    CHECK.due("other bits behind " + code, board.get(Boards.AF) & OTHER_BITS, 0);
                }
            }
        }
    }

    /** With A, F before and the operand in B: A and F behind. */
    private static void due(String what, int a, int f, int b, int wantA, int wantF, int... code) {
        SpectrumBoard board = Boards.with(code);
        board.set(Boards.AF, a << 8 | f);
        board.set(Boards.BC, b << 8);
        board.run(1);
        String told = what + " of " + a + ", " + b + " by " + f;
        CHECK.due(told + ": A", Boards.a(board), wantA);
        CHECK.due(told + ": F", Boards.f(board), wantF);
        CHECK.due(told + ": B", board.get(Boards.BC), b << 8);
    }

    // "H: the carry out of bit 3"; "V: the sum .., with signs, goes beyond"; "S, Z of a result"
    private static void sums() {
        int[][] rows = {
            {0x00, 0x00, 0x00, Z}, {0x0E, 0x01, 0x0F, 0}, {0x0F, 0x01, 0x10, H}, {0x08, 0x07, 0x0F, 0},
            {0x08, 0x08, 0x10, H}, {0x7E, 0x01, 0x7F, 0}, {0x7F, 0x01, 0x80, S | H | P},
            {0x80, 0xFF, 0x7F, P | C}, {0x81, 0xFF, 0x80, S | H | C}, {0x80, 0x80, 0x00, Z | P | C},
            {0xFE, 0x01, 0xFF, S}, {0xFF, 0x01, 0x00, Z | H | C}, {0xFF, 0xFF, 0xFE, S | H | C},
            {0x40, 0x3F, 0x7F, 0}, {0x40, 0x40, 0x80, S | P}, {0xC0, 0xC0, 0x80, S | C},
            {0xC0, 0xBF, 0x7F, P | C}, {0x7F, 0x80, 0xFF, S}};
        for (int[] row : rows) {
            due("ADD", row[0], 0, row[1], row[2], row[3], 0x80);
            due("ADD with C, which it leaves out", row[0], 0xD7, row[1], row[2], row[3], 0x80);
            due("ADC without C", row[0], 0xD6, row[1], row[2], row[3], 0x88);
        }
        int[][] withCarry = {
            {0x00, 1, 0x00, 0x01, 0}, {0x0E, 1, 0x00, 0x0F, 0}, {0x0F, 1, 0x00, 0x10, H}, {0x00, 1, 0x0F, 0x10, H},
            {0x7E, 1, 0x00, 0x7F, 0}, {0x7F, 1, 0x00, 0x80, S | H | P}, {0x00, 1, 0x7F, 0x80, S | H | P},
            {0xFE, 1, 0x00, 0xFF, S}, {0xFF, 1, 0x00, 0x00, Z | H | C}, {0x00, 1, 0xFF, 0x00, Z | H | C},
            {0xFF, 1, 0xFF, 0xFF, S | H | C}, {0x80, 1, 0x7F, 0x00, Z | H | C}, {0x7F, 1, 0x7F, 0xFF, S | H | P},
            {0x80, 1, 0xFF, 0x80, S | H | C}, {0x80, 1, 0x80, 0x01, P | C}};
        for (int[] row : withCarry) {
            due("ADC", row[0], row[1], row[2], row[3], row[4], 0x88);
        }
    }

    // "or the borrow into it"; "V: the .. difference, with signs, goes beyond"
    private static void differences() {
        int[][] rows = {
            {0x00, 0x00, 0x00, Z | N}, {0x01, 0x01, 0x00, Z | N}, {0x00, 0x01, 0xFF, S | H | N | C},
            {0x0F, 0x0F, 0x00, Z | N}, {0x10, 0x01, 0x0F, H | N}, {0x0F, 0x01, 0x0E, N},
            {0x80, 0x01, 0x7F, H | P | N}, {0x81, 0x01, 0x80, S | N}, {0x7F, 0xFF, 0x80, S | P | N | C},
            {0x7E, 0xFF, 0x7F, H | N | C}, {0x00, 0x80, 0x80, S | P | N | C}, {0xFF, 0x80, 0x7F, N},
            {0xFF, 0xFF, 0x00, Z | N}, {0xFE, 0xFF, 0xFF, S | H | N | C}};
        for (int[] row : rows) {
            due("SUB", row[0], 0, row[1], row[2], row[3], 0x90);
            due("SUB with C, which it leaves out", row[0], 0xD7, row[1], row[2], row[3], 0x90);
            due("SBC without C", row[0], 0xD6, row[1], row[2], row[3], 0x98);
        }
        int[][] withCarry = {
            {0x01, 1, 0x00, 0x00, Z | N}, {0x00, 1, 0x00, 0xFF, S | H | N | C}, {0x10, 1, 0x00, 0x0F, H | N},
            {0x11, 1, 0x00, 0x10, N}, {0x10, 1, 0x0F, 0x00, Z | H | N}, {0x80, 1, 0x00, 0x7F, H | P | N},
            {0x81, 1, 0x00, 0x80, S | N}, {0x7F, 1, 0xFF, 0x7F, H | N | C}, {0x00, 1, 0xFF, 0x00, Z | H | N | C},
            {0x80, 1, 0x7F, 0x00, Z | H | P | N}, {0xFF, 1, 0xFF, 0xFF, S | H | N | C}};
        for (int[] row : withCarry) {
            due("SBC", row[0], row[1], row[2], row[3], row[4], 0x98);
        }
    }

    // "CP leaves A"
    private static void comparisonLeavesA() {
        int[][] rows = {
            {0x00, 0x00, Z | N}, {0x00, 0x01, S | H | N | C}, {0x10, 0x01, H | N}, {0x80, 0x01, H | P | N},
            {0x7F, 0xFF, S | P | N | C}, {0xFF, 0xFF, Z | N}};
        for (int[] row : rows) {
            due("CP", row[0], 0, row[1], row[0], row[2], 0xB8);
            due("CP with C", row[0], 0xD7, row[1], row[0], row[2], 0xB8);
        }
    }

    // "EVEN: P is 1 if the ones of the result are even": none, one, two, seven, eight of them.
    private static void logicals() {
        int[][] rows = {{0x00, Z | P}, {0x01, 0}, {0x80, S}, {0x81, S | P}, {0x7F, 0}, {0xFE, S}, {0xFF, S | P}};
        for (int[] row : rows) {
            for (int f : new int[] {0, 0xD7}) {
                due("AND", row[0], f, 0xFF, row[0], row[1] | H, 0xA0);
                due("XOR", row[0], f, 0x00, row[0], row[1], 0xA8);
                due("OR", row[0], f, row[0], row[0], row[1], 0xB0);
            }
        }
        due("AND", 0xF0, C, 0x0F, 0, Z | H | P, 0xA0);
        due("XOR", 0xFF, C, 0xFF, 0, Z | P, 0xA8);
        due("OR", 0xF0, C, 0x0F, 0xFF, S | P, 0xB0);
    }

    private static void oneMoreAndOneLess() {
        int[][] more = {
            {0x00, 0x01, 0}, {0x0E, 0x0F, 0}, {0x0F, 0x10, H}, {0x7E, 0x7F, 0}, {0x7F, 0x80, S | H | P},
            {0x80, 0x81, S}, {0xFE, 0xFF, S}, {0xFF, 0x00, Z | H}};
        int[][] less = {
            {0x00, 0xFF, S | H | N}, {0x01, 0x00, Z | N}, {0x02, 0x01, N}, {0x10, 0x0F, H | N}, {0x11, 0x10, N},
            {0x7F, 0x7E, N}, {0x80, 0x7F, H | P | N}, {0x81, 0x80, S | N}, {0xFF, 0xFE, S | N}};
        for (int carry = 0; carry <= 1; carry++) {
            for (int[] row : more) {
                due("INC", row[0], carry, 0, row[1], row[2] | carry, 0x3C);
                due("INC", row[0], 0xD6 | carry, 0, row[1], row[2] | carry, 0x3C);
            }
            for (int[] row : less) {
                due("DEC", row[0], carry, 0, row[1], row[2] | carry, 0x3D);
                due("DEC", row[0], 0xD6 | carry, 0, row[1], row[2] | carry, 0x3D);
            }
        }
    }

    // "NEG: as 0 SUB A"
    private static void negation() {
        int[][] rows = {
            {0x00, 0x00, Z | N}, {0x01, 0xFF, S | H | N | C}, {0x0F, 0xF1, S | H | N | C}, {0x10, 0xF0, S | N | C},
            {0x7F, 0x81, S | H | N | C}, {0x80, 0x80, S | P | N | C}, {0x81, 0x7F, H | N | C},
            {0xFF, 0x01, H | N | C}};
        for (int[] row : rows) {
            due("NEG", row[0], 0, 0, row[1], row[2], 0xED, 0x44);
            due("NEG", row[0], 0xD7, 0, row[1], row[2], 0xED, 0x44);
        }
    }

    private static void duePair(String what, int hl, int f, int de, int wantHl, int wantF, int... code) {
        SpectrumBoard board = Boards.with(code);
        board.set(Boards.AF, 0x3300 | f);
        board.set(Boards.HL, hl);
        board.set(Boards.DE, de);
        board.run(1);
        String told = what + " of " + hl + ", " + de + " by " + f;
        CHECK.due(told + ": HL", board.get(Boards.HL), wantHl);
        CHECK.due(told + ": AF", board.get(Boards.AF), 0x3300 | wantF);
    }

    // "H: the carry out of bit .. (of 16 bits: 11)"
    private static void sumsOfPairs() {
        int[][] plain = {
            {0, 0, 0, 0}, {0x0FFE, 1, 0x0FFF, 0}, {0x0FFF, 1, 0x1000, H}, {0x7FFF, 1, 0x8000, H},
            {0x00FF, 1, 0x0100, 0},
            {0x07FF, 1, 0x0800, 0}, {0x0800, 0x0800, 0x1000, H}, {0xFFFE, 1, 0xFFFF, 0}, {0xFFFF, 1, 0, H | C},
            {0x8000, 0x8000, 0, C}, {0xFFFF, 0xFFFF, 0xFFFE, H | C}};
        for (int[] row : plain) {
            duePair("ADD HL", row[0], 0, row[1], row[2], row[3], 0x19);
            duePair("ADD HL", row[0], 0xD7, row[1], row[2], row[3] | S | Z | P, 0x19);
        }
        int[][] rows = {
            {0, 0, 0, 0, Z}, {0, 1, 0, 1, 0}, {0x0FFE, 1, 0, 0x0FFF, 0}, {0x0FFF, 1, 0, 0x1000, H},
            {0x00FF, 1, 0, 0x0100, 0}, {0x07FF, 1, 0, 0x0800, 0}, {0x0800, 0, 0x0800, 0x1000, H},
            {0x7FFE, 1, 0, 0x7FFF, 0}, {0x7FFF, 1, 0, 0x8000, S | H | P},
            {0x7FFF, 0, 1, 0x8000, S | H | P}, {0x8000, 0, 0xFFFF, 0x7FFF, P | C},
            {0x8000, 1, 0xFFFF, 0x8000, S | H | C},
            {0x8000, 0, 0x8000, 0, Z | P | C}, {0xFFFF, 1, 0, 0, Z | H | C},
            {0xFFFF, 1, 0xFFFF, 0xFFFF, S | H | C}};
        for (int[] row : rows) {
            duePair("ADC HL", row[0], row[1], row[2], row[3], row[4], 0xED, 0x5A);
            duePair("ADC HL", row[0], 0xD6 | row[1], row[2], row[3], row[4], 0xED, 0x5A);
        }
    }

    private static void differencesOfPairs() {
        int[][] rows = {
            {0, 0, 0, 0, Z | N}, {1, 1, 0, 0, Z | N}, {1, 0, 1, 0, Z | N}, {0, 1, 0, 0xFFFF, S | H | N | C},
            {0, 0, 1, 0xFFFF, S | H | N | C}, {0x1000, 0, 1, 0x0FFF, H | N}, {0x1000, 1, 0, 0x0FFF, H | N},
            {0x1001, 1, 0, 0x1000, N}, {0x0100, 0, 1, 0x00FF, N}, {0x0800, 0, 1, 0x07FF, N},
            {0x1000, 0, 0x0800, 0x0800, H | N}, {0x8000, 0, 1, 0x7FFF, H | P | N},
            {0x8001, 0, 1, 0x8000, S | N}, {0x7FFF, 0, 0xFFFF, 0x8000, S | P | N | C},
            {0x7FFF, 1, 0xFFFF, 0x7FFF, H | N | C}, {0xFFFF, 0, 0xFFFF, 0, Z | N},
            {0x0000, 1, 0xFFFF, 0, Z | H | N | C}};
        for (int[] row : rows) {
            duePair("SBC HL", row[0], row[1], row[2], row[3], row[4], 0xED, 0x52);
            duePair("SBC HL", row[0], 0xD6 | row[1], row[2], row[3], row[4], 0xED, 0x52);
        }
    }

    private static void decimal(int[][] rows) {
        for (int[] row : rows) {
            due("DAA", row[0], row[1], 0, row[2], row[3], 0x27);
            due("DAA", row[0], row[1] | S | Z | P, 0, row[2], row[3], 0x27);
        }
    }

    // "the correction is 6, if H, or A's lower four bits are above 9"
    private static void decimalAboveNine() {
        decimal(new int[][] {
            {0x00, 0, 0x00, Z | P}, {0x09, 0, 0x09, P}, {0x0A, 0, 0x10, H}, {0x0F, 0, 0x15, H}, {0x00, H, 0x06, P},
            {0x09, H, 0x0F, P}, {0x0A, H, 0x10, H}, {0x79, 0, 0x79, 0}, {0x7A, 0, 0x80, S | H},
            {0x90, H, 0x96, S | P}});
    }

    // "and 96 more, if C, or A is above 153 (C is 1 then)"
    private static void decimalAbove153() {
        decimal(new int[][] {
            {0x99, 0, 0x99, S | P}, {0x9A, 0, 0x00, Z | H | P | C}, {0x9F, 0, 0x05, H | P | C},
            {0xA0, 0, 0x00, Z | P | C},
            {0x99, H, 0x9F, S | P}, {0x99, C, 0xF9, S | P | C}, {0x00, C, 0x60, P | C}, {0x00, H | C, 0x66, P | C},
            {0xFA, 0, 0x60, H | P | C}, {0xFF, H | C, 0x65, H | P | C}, {0x8F, 0, 0x95, S | H | P}});
    }

    // "it is added, or taken off if N; .. N stays"
    private static void decimalTakenOff() {
        decimal(new int[][] {
            {0x00, N, 0x00, Z | P | N}, {0x09, N, 0x09, P | N}, {0x0A, N, 0x04, N}, {0x0F, N | H, 0x09, P | N},
            {0x10, N | H, 0x0A, H | P | N}, {0x99, N, 0x99, S | P | N}, {0x9A, N, 0x34, N | C},
            {0x60, N | C, 0x00, Z | P | N | C}, {0x00, N | H | C, 0x9A, S | H | P | N | C},
            {0x05, N | H, 0xFF, S | H | P | N}});
    }

    // "C the bit that goes out"; of RLCA and so on "only C, H 0, N 0 change"
    private static void bitsThatGoOut() {
        int[][] ofA = {
            {0x07, 0x80, 0, 0x01, C}, {0x07, 0x7F, 1, 0xFE, 0}, {0x0F, 0x01, 0, 0x80, C}, {0x0F, 0xFE, 1, 0x7F, 0},
            {0x17, 0x80, 0, 0x00, C}, {0x17, 0x80, 1, 0x01, C}, {0x17, 0x7F, 1, 0xFF, 0}, {0x1F, 0x01, 0, 0x00, C},
            {0x1F, 0x01, 1, 0x80, C}, {0x1F, 0xFE, 1, 0xFF, 0}};
        for (int[] row : ofA) {
            due("rotation of A", row[1], row[2], 0, row[3], row[4], row[0]);
            due("rotation of A", row[1], 0xD6 | row[2], 0, row[3], row[4] | S | Z | P, row[0]);
        }
        int[][] all = {
            {0x07, 0x80, 0, 0x01, C}, {0x07, 0x7F, 1, 0xFE, S}, {0x07, 0x00, 1, 0x00, Z | P},
            {0x0F, 0x01, 0, 0x80, S | C},
            {0x0F, 0xFE, 1, 0x7F, 0}, {0x17, 0x80, 0, 0x00, Z | P | C}, {0x17, 0x7F, 1, 0xFF, S | P},
            {0x1F, 0x01, 0, 0x00, Z | P | C},
            {0x1F, 0x01, 1, 0x80, S | C}, {0x27, 0x80, 1, 0x00, Z | P | C}, {0x27, 0x7F, 1, 0xFE, S},
            {0x2F, 0x80, 1, 0xC0, S | P},
            {0x2F, 0x01, 1, 0x00, Z | P | C}, {0x2F, 0x7F, 1, 0x3F, P | C}, {0x3F, 0x80, 1, 0x40, 0},
            {0x3F, 0x01, 1, 0x00, Z | P | C}};
        for (int[] row : all) {
            due("CBh", row[1], row[2], 0, row[3], row[4], 0xCB, row[0]);
            due("CBh", row[1], 0xD6 | row[2], 0, row[3], row[4], 0xCB, row[0]);
        }
    }

    // "BIT: Z if it is 0, H 1, N, S, P 0": also of the bit 7, and C stays.
    private static void bitsThatAreTested() {
        for (int bit = 0; bit < 8; bit++) {
            int one = 1 << bit;
            for (int carry = 0; carry <= 1; carry++) {
                due("BIT", one, 0xD6 | carry, 0, one, H | carry, 0xCB, 0x47 | bit << 3);
                due("BIT", 255 - one, 0x86 | carry, 0, 255 - one, Z | H | carry, 0xCB, 0x47 | bit << 3);
            }
            due("RES", 0xFF, 0xD7, 0, 255 - one, 0xD7, 0xCB, 0x87 | bit << 3);
            due("RES", 0x00, 0, 0, 0x00, 0, 0xCB, 0x87 | bit << 3);
            due("SET", 0x00, 0xD7, 0, one, 0xD7, 0xCB, 0xC7 | bit << 3);
            due("SET", 0xFF, 0, 0, 0xFF, 0, 0xCB, 0xC7 | bit << 3);
        }
    }
}
