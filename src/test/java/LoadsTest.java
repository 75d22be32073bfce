/** Promise 8: the instructions that move bytes and pairs, and set no flags (but LDI, LDIR). */
public final class LoadsTest {
    private static final Check CHECK = new Check("LoadsTest");
    private static final int[] START = {0xA147, 0xB203, 0xC304, 0x0D38, 0x1111, 0x2222, 0x3333, 0x4444, 0x0E20, 2048};

    public static void main(String[] args) {
        singlesFromSingles();
        singlesFromBytesBehind();
        pairsFromBytesBehind();
        byAddress();
        pairsOneMoreOrLess();
        pairsWithPairs();
        exchanges();
        stack();
        romIsKept();
        addressesGoRound();
        oneCopy();
        manyCopies();
        CHECK.end();
    }

    /** Each register has a byte of its own, (HL) at 0D38h too. */
    private static SpectrumBoard ready(int... code) {
        SpectrumBoard board = Boards.with(code);
        for (int pair = 0; pair < 9; pair++) {
            board.set(pair, START[pair]);
        }
        Boards.load(board, 0x0D38, 0xEE);
        return board;
    }

    /** All pairs are as at the start, but for what is told: pair, value, pair, value .. */
    private static void expect(String what, SpectrumBoard board, int length, int... told) {
        int[] want = START.clone();
        want[Boards.PC] = 2048 + length;
        for (int k = 0; k < told.length; k += 2) {
            want[told[k]] = told[k + 1];
        }
        for (int pair = 0; pair < 10; pair++) {
            CHECK.due(what + ": pair " + pair, board.get(pair), want[pair]);
        }
    }

    private static int single(int r) {
        if (r == 6) {
            return 0xEE;
        }
        int pair = START[r == 7 ? 0 : 1 + r / 2];
        return r == 7 || r % 2 == 0 ? pair >> 8 : pair & 255;
    }

    private static void expectSingle(String what, SpectrumBoard board, int length, int r, int value) {
        if (r == 6) {
            expect(what, board, length);
            CHECK.due(what, board.peek(0x0D38), value);
            return;
        }
        int pair = r == 7 ? 0 : 1 + r / 2;
        boolean higher = r == 7 || r % 2 == 0;
        expect(what, board, length, pair, higher ? value << 8 | START[pair] & 255 : START[pair] & 0xFF00 | value);
        CHECK.due(what + " leaves (HL)", board.peek(0x0D38), 0xEE);
    }

    private static void singlesFromSingles() {
        for (int code = 0x40; code < 0x80; code++) {
            if (code != 0x76) {
                SpectrumBoard board = ready(code);
                board.run(1);
                expectSingle("LD by " + code, board, 1, code >> 3 & 7, single(code & 7));
            }
        }
    }

    private static void singlesFromBytesBehind() {
        for (int r = 0; r < 8; r++) {
            SpectrumBoard board = ready(r << 3 | 6, 0x9C);
            board.run(1);
            expectSingle("LD r,n of " + r, board, 2, r, 0x9C);
        }
        for (int r = 0; r < 8; r++) {
            SpectrumBoard board = ready(r << 3 | 4);
            board.set(Boards.AF, 0xA147);
            board.run(1);
            int more = single(r) + 1;
            CHECK.due("INC r of " + r, r == 6 ? board.peek(0x0D38) : byteOf(board, r), more);
            board = ready(r << 3 | 5);
            board.run(1);
            CHECK.due("DEC r of " + r, r == 6 ? board.peek(0x0D38) : byteOf(board, r), more - 2);
        }
    }

    private static int byteOf(SpectrumBoard board, int r) {
        int pair = board.get(r == 7 ? 0 : 1 + r / 2);
        return r == 7 || r % 2 == 0 ? pair >> 8 : pair & 255;
    }

    private static int pairOf(int p) {
        return p == 3 ? Boards.SP : p + 1;
    }

    private static void pairsFromBytesBehind() {
        for (int p = 0; p < 4; p++) {
            SpectrumBoard board = ready(p << 4 | 1, 0x34, 0xF2);
            board.run(1);
            expect("LD p,nn of " + p, board, 3, pairOf(p), 0xF234);
        }
    }

    private static void byAddress() {
        SpectrumBoard board = ready(0x02);
        board.set(Boards.BC, 0x0C01);
        board.run(1);
        CHECK.due("LD (BC),A", board.peek(0x0C01), 0xA1);
        expect("LD (BC),A", board, 1, Boards.BC, 0x0C01);
        board = ready(0x12);
        board.set(Boards.DE, 0x0C02);
        board.run(1);
        CHECK.due("LD (DE),A", board.peek(0x0C02), 0xA1);
        expect("LD (DE),A", board, 1, Boards.DE, 0x0C02);
        board = ready(0x0A);
        Boards.load(board, 0x203, 0x77);
        board.run(1);
        expect("LD A,(BC)", board, 1, Boards.AF, 0x7747);
        board = ready(0x1A);
        Boards.load(board, 0x304, 0x78);
        board.run(1);
        expect("LD A,(DE)", board, 1, Boards.AF, 0x7847);
        byAddressBehind();
    }

    private static void byAddressBehind() {
        SpectrumBoard board = ready(0x22, 0x05, 0x0C);
        board.run(1);
        CHECK.due("LD (nn),HL lower", board.peek(0x0C05), 0x38);
        CHECK.due("LD (nn),HL higher", board.peek(0x0C06), 0x0D);
        expect("LD (nn),HL", board, 3);
        board = ready(0x22, 0x05, 0x0C);
        board.set(Boards.HL, 0xFEDB);
        board.run(1);
        CHECK.due("LD (nn),HL odd lower", board.peek(0x0C05), 0xDB);
        CHECK.due("LD (nn),HL high higher", board.peek(0x0C06), 0xFE);
        board = ready(0x2A, 0x05, 0x0C);
        Boards.load(board, 0x0C05, 0x12, 0x98);
        board.run(1);
        expect("LD HL,(nn)", board, 3, Boards.HL, 0x9812);
        board = ready(0x32, 0x05, 0x0C);
        board.run(1);
        CHECK.due("LD (nn),A", board.peek(0x0C05), 0xA1);
        CHECK.due("LD (nn),A behind", board.peek(0x0C06), 0);
        expect("LD (nn),A", board, 3);
        board = ready(0x3A, 0x05, 0x0C);
        Boards.load(board, 0x0C05, 0x12, 0x98);
        board.run(1);
        expect("LD A,(nn)", board, 3, Boards.AF, 0x1247);
    }

    private static void pairsOneMoreOrLess() {
        for (int p = 0; p < 4; p++) {
            int pair = pairOf(p);
            for (int value : new int[] {0, 1, 255, 256, 0x7FFF, 0x8000, 0xFFFF}) {
                SpectrumBoard board = ready(p << 4 | 3);
                board.set(pair, value);
                board.run(1);
                expect("INC p of " + p, board, 1, pair, value + 1 & 0xFFFF);
                board = ready(p << 4 | 11);
                board.set(pair, value);
                board.run(1);
                expect("DEC p of " + p, board, 1, pair, value - 1 & 0xFFFF);
            }
        }
    }

    // Which pair it is, the flags being asked elsewhere.
    private static void pairsWithPairs() {
        for (int p = 0; p < 4; p++) {
            int value = START[pairOf(p)];
            SpectrumBoard board = ready(p << 4 | 9);
            board.run(1);
            CHECK.due("ADD HL,p of " + p, board.get(Boards.HL), START[Boards.HL] + value & 0xFFFF);
            board = ready(0xED, 0x4A | p << 4);
            board.run(1);
            CHECK.due("ADC HL,p of " + p, board.get(Boards.HL), START[Boards.HL] + value + 1 & 0xFFFF);
            board = ready(0xED, 0x42 | p << 4);
            board.run(1);
            CHECK.due("SBC HL,p of " + p, board.get(Boards.HL), START[Boards.HL] - value - 1 & 0xFFFF);
        }
    }

    private static void exchanges() {
        SpectrumBoard board = ready(0x08);
        board.run(1);
        expect("EX AF,AF'", board, 1, 0, START[4], 4, START[0]);
        board = ready(0xD9);
        board.run(1);
        expect("EXX", board, 1, 1, START[5], 2, START[6], 3, START[7], 5, START[1], 6, START[2], 7, START[3]);
        board = ready(0xEB);
        board.run(1);
        expect("EX DE,HL", board, 1, Boards.DE, START[Boards.HL], Boards.HL, START[Boards.DE]);
        board = ready(0xE3);
        Boards.load(board, 0x0E20, 0x66, 0x99);
        board.run(1);
        expect("EX (SP),HL", board, 1, Boards.HL, 0x9966);
        CHECK.due("EX (SP),HL lower", board.peek(0x0E20), 0x38);
        CHECK.due("EX (SP),HL higher", board.peek(0x0E21), 0x0D);
        board = ready(0xF9);
        board.run(1);
        expect("LD SP,HL", board, 1, Boards.SP, START[Boards.HL]);
    }

    private static void stack() {
        for (int p = 0; p < 4; p++) {
            int pair = p == 3 ? Boards.AF : p + 1;
            SpectrumBoard board = ready(0xC5 | p << 4);
            board.run(1);
            expect("PUSH of " + p, board, 1, Boards.SP, 0x0E1E);
            CHECK.due("pushed lower", board.peek(0x0E1E), START[pair] & 255);
            CHECK.due("pushed higher", board.peek(0x0E1F), START[pair] >> 8);
            board = ready(0xC1 | p << 4);
            Boards.load(board, 0x0E20, 0xFF, 0x98);
            board.run(1);
            expect("POP of " + p, board, 1, Boards.SP, 0x0E22, pair, p == 3 ? 0x98D7 : 0x98FF);
        }
        SpectrumBoard board = ready(0xC5, 0xD1);
        board.set(Boards.SP, 1);
        board.run(11);
        CHECK.due("SP goes round", board.get(Boards.SP), 65535);
        CHECK.due("pushed into ROM", board.peek(0), 0);
        CHECK.due("pushed to the end", board.peek(4095), 3);
        board.run(10);
        CHECK.due("SP comes back", board.get(Boards.SP), 1);
        CHECK.due("popped", board.get(Boards.DE), 3);
    }

    private static void romIsKept() {
        int[] places = {0, 1, 512, 1022, 1023, 1024, 1025, 2047, 2048 + 9, 4095};
        for (int place : places) {
            for (int above = 0; above < 65536; above += 4096) {
                SpectrumBoard board = ready(0x77);
                Boards.load(board, place, 0x5C);
                board.set(Boards.HL, above + place);
                board.run(1);
                CHECK.due("LD (HL),A at " + (above + place), board.peek(place), place < 1024 ? 0x5C : 0xA1);
            }
        }
        SpectrumBoard board = ready(0x22, 0xFF, 0x03);
        board.run(1);
        CHECK.due("last byte of ROM", board.peek(1023), 0);
        CHECK.due("first byte behind ROM", board.peek(1024), 0x0D);
    }

    private static void addressesGoRound() {
        SpectrumBoard board = ready(0);
        Boards.load(board, 4094, 0x21, 0x45, 0x67, 0x3C);
        board.set(Boards.PC, 0xFFFE);
        board.run(1);
        CHECK.due("nn over the end", board.get(Boards.HL), 0x6745);
        CHECK.due("PC over the end", board.get(Boards.PC), 1);
        board.set(Boards.PC, 0x5001);
        board.run(1);
        CHECK.due("A by PC above memory", Boards.a(board), 0xA2);
        CHECK.due("PC above memory", board.get(Boards.PC), 0x5002);
        board = ready(0x2A, 0xFF, 0x0F);
        Boards.load(board, 4095, 0x12, 0x34);
        board.run(1);
        CHECK.due("pair over the end", board.get(Boards.HL), 0x3412);
    }

    private static void oneCopy() {
        for (int flags : new int[] {0, Boards.ALL_FLAGS}) {
            for (int bc : new int[] {0, 1, 2, 256, 65535}) {
                SpectrumBoard board = ready(0xED, 0xA0);
                board.set(Boards.AF, 0x5500 | flags);
                board.set(Boards.BC, bc);
                board.set(Boards.DE, 0x0C00);
                board.run(1);
                int left = bc - 1 & 0xFFFF;
                int due = flags & (Boards.S | Boards.Z | Boards.C) | (left != 0 ? Boards.P : 0);
                expect("LDI", board, 2, 0, 0x5500 | due, 1, left, 2, 0x0C01, 3, START[Boards.HL] + 1);
                CHECK.due("LDI copied", board.peek(0x0C00), 0xEE);
                CHECK.due("LDI time", board.count(0), 16);
            }
        }
        SpectrumBoard board = ready(0xED, 0xA0);
        board.set(Boards.HL, 65535);
        board.set(Boards.DE, 65535);
        board.run(1);
        CHECK.due("HL goes round", board.get(Boards.HL), 0);
        CHECK.due("DE goes round", board.get(Boards.DE), 0);
    }

    private static void manyCopies() {
        SpectrumBoard board = ready(0xED, 0xB0);
        Boards.load(board, 3000, 1, 2, 3, 4);
        board.set(Boards.AF, Boards.ALL_FLAGS);
        board.set(Boards.HL, 3000);
        board.set(Boards.DE, 3100);
        board.set(Boards.BC, 3);
        board.run(1);
        CHECK.due("PC at its EDh", board.get(Boards.PC), 2048);
        CHECK.due("T of one", board.count(0), 21);
        CHECK.due("F while it goes", Boards.f(board), Boards.S | Boards.Z | Boards.C | Boards.P);
        CHECK.due("instructions", board.count(7), 1);
        board.run(22);
        CHECK.due("PC behind it", board.get(Boards.PC), 2050);
        CHECK.due("T of three", board.count(0), 58);
        CHECK.due("instructions of three", board.count(7), 3);
        CHECK.due("BC", board.get(Boards.BC), 0);
        CHECK.due("HL", board.get(Boards.HL), 3003);
        CHECK.due("DE", board.get(Boards.DE), 3103);
        CHECK.due("F behind it", Boards.f(board), Boards.S | Boards.Z | Boards.C);
        for (int k = 0; k < 4; k++) {
            CHECK.due("copied " + k, board.peek(3100 + k), k < 3 ? k + 1 : 0);
        }
    }
}
