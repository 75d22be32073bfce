/** Promise 8: what instructions make of A, HL and F, asked for all bytes, by the document's words. */
public final class FlagsTest {
    private static final Check CHECK = new Check("FlagsTest");
    private static final String[] NAMES = {"ADD", "ADC", "SUB", "SBC", "AND", "XOR", "OR", "CP"};
    private static final int[] PAIRS_OF_INTEREST = {
        0, 1, 0x00FF, 0x0100, 0x0FFF, 0x1000, 0x0FFE, 0x7FFF, 0x8000, 0x8001, 0xEFFF, 0xF000, 0xFFFE, 0xFFFF,
        0x1234, 0x89AB, 0xC0DE};

    private static SpectrumBoard board;
    private static int used;

    public static void main(String[] args) {
        eightWithA();
        negation();
        oneMoreAndOneLess();
        shiftsOfA();
        decimal();
        carryAndComplement();
        shiftsAndBits();
        pairs();
        CHECK.end();
    }

    // A board is promised for 512 calls.
    private static void ready(int a, int f, int b, int... code) {
        if (board == null || used >= 40) {
            board = new SpectrumBoard();
            used = 0;
        }
        used++;
        Boards.load(board, Boards.CODE, code);
        board.set(Boards.PC, Boards.CODE);
        board.set(Boards.AF, a << 8 | f);
        board.set(Boards.BC, b << 8);
    }

    private static int flag(int flag, boolean on) {
        return on ? flag : 0;
    }

    private static int signAndZero(int result) {
        return flag(Boards.S, result > 127) + flag(Boards.Z, result == 0);
    }

    private static int even(int result) {
        int ones = 0;
        for (int bit = 0; bit < 8; bit++) {
            ones += result >> bit & 1;
        }
        return flag(Boards.P, ones % 2 == 0);
    }

    private static int signed(int value) {
        return value > 127 ? value - 256 : value;
    }

    private static int goesBeyond(int value) {
        return flag(Boards.P, value < -128 || value > 127);
    }

    private static int sum(int a, int b, int c) {
        int result = (a + b + c) % 256;
        int flags = signAndZero(result) + flag(Boards.H, a % 16 + b % 16 + c > 15)
                + goesBeyond(signed(a) + signed(b) + c) + flag(Boards.C, a + b + c > 255);
        return result << 8 | flags;
    }

    private static int difference(int a, int b, int c) {
        int result = (a - b - c + 512) % 256;
        int flags = signAndZero(result) + flag(Boards.H, a % 16 - b % 16 - c < 0)
                + goesBeyond(signed(a) - signed(b) - c) + Boards.N + flag(Boards.C, a - b - c < 0);
        return result << 8 | flags;
    }

    private static int logical(int result, int half) {
        return result << 8 | signAndZero(result) + even(result) + half;
    }

    private static int withA(int kind, int a, int b, int c) {
        switch (kind) {
            case 0: return sum(a, b, 0);
            case 1: return sum(a, b, c);
            case 2: return difference(a, b, 0);
            case 3: return difference(a, b, c);
            case 4: return logical(a & b, Boards.H);
            case 5: return logical(a ^ b, 0);
            case 6: return logical(a | b, 0);
            default: return a << 8 | difference(a, b, 0) & 255;
        }
    }

    private static void eightWithA() {
        for (int kind = 0; kind < 8; kind++) {
            for (int all = 0; all < 256 * 256 * 2; all++) {
                int a = all & 255;
                int b = all >> 8 & 255;
                int c = all >> 16;
                ready(a, c == 0 ? Boards.ALL_FLAGS - 1 : 1, b, 0x80 | kind << 3);
                board.run(1);
                String what = NAMES[kind] + " " + a + "," + b + "," + c;
                CHECK.due(what, board.get(Boards.AF), withA(kind, a, b, c));
            }
            eightWithOthers(kind);
        }
    }

    // n, (HL) and A itself take the same way.
    private static void eightWithOthers(int kind) {
        for (int a = 0; a < 256; a += 5) {
            int b = a * 7 + 3 & 255;
            ready(a, 1, 0, 0xC6 | kind << 3, b);
            board.run(1);
            CHECK.due(NAMES[kind] + " n", board.get(Boards.AF), withA(kind, a, b, 1));
            ready(a, 1, 0, 0x86 | kind << 3);
            board.poke(3000, b << 24, 1);
            board.set(Boards.HL, 3000);
            board.run(1);
            CHECK.due(NAMES[kind] + " (HL)", board.get(Boards.AF), withA(kind, a, b, 1));
            ready(a, 1, 0, 0x87 | kind << 3);
            board.run(1);
            CHECK.due(NAMES[kind] + " A", board.get(Boards.AF), withA(kind, a, a, 1));
        }
    }

    private static void negation() {
        for (int a = 0; a < 256; a++) {
            ready(a, a % 2 == 0 ? Boards.ALL_FLAGS : 0, 0, 0xED, 0x44);
            board.run(1);
            CHECK.due("NEG " + a, board.get(Boards.AF), difference(0, a, 0));
        }
    }

    private static void oneMoreAndOneLess() {
        for (int all = 0; all < 512; all++) {
            int value = all & 255;
            int carry = all >> 8;
            int flags = carry == 0 ? Boards.ALL_FLAGS - 1 : 1;
            ready(0, flags, value, 0x04);
            board.run(1);
            int more = sum(value, 1, 0) & ~1 | carry;
            CHECK.due("INC " + value, board.get(Boards.BC) & 0xFF00 | board.get(Boards.AF), more);
            ready(0, flags, value, 0x05);
            board.run(1);
            int less = difference(value, 1, 0) & ~1 | carry;
            CHECK.due("DEC " + value, board.get(Boards.BC) & 0xFF00 | board.get(Boards.AF), less);
        }
    }

    private static int moved(int kind, int value, int c) {
        int left = value * 2 % 256;
        int right = value / 2;
        switch (kind) {
            case 0: return left + (value > 127 ? 1 : 0);
            case 1: return right + (value % 2 == 1 ? 128 : 0);
            case 2: return left + c;
            case 3: return right + 128 * c;
            case 4: return left;
            case 5: return right + (value > 127 ? 128 : 0);
            default: return right;
        }
    }

    private static int out(int kind, int value) {
        boolean left = kind == 0 || kind == 2 || kind == 4;
        return flag(Boards.C, left ? value > 127 : value % 2 == 1);
    }

    private static void shiftsOfA() {
        for (int kind = 0; kind < 4; kind++) {
            for (int all = 0; all < 1024; all++) {
                int a = all & 255;
                int flags = (all & 256) == 0 ? 0 : Boards.ALL_FLAGS;
                flags ^= all >> 9;
                ready(a, flags, 0, 0x07 | kind << 3);
                board.run(1);
                int want = moved(kind, a, flags & 1) << 8 | flags & (Boards.S | Boards.Z | Boards.P) | out(kind, a);
                CHECK.due("shift of A " + kind + " " + a, board.get(Boards.AF), want);
            }
        }
    }

    private static int decimal(int a, int flags) {
        boolean carry = (flags & Boards.C) != 0 || a > 153;
        int correction = (flags & Boards.H) != 0 || a % 16 > 9 ? 6 : 0;
        correction += carry ? 96 : 0;
        int result = ((flags & Boards.N) != 0 ? a - correction + 256 : a + correction) % 256;
        int half = flag(Boards.H, (a / 16) % 2 != (result / 16) % 2);
        return result << 8 | signAndZero(result) + even(result) + half + (flags & Boards.N) + flag(Boards.C, carry);
    }

    private static void decimal() {
        for (int all = 0; all < 256 * 64; all++) {
            int a = all & 255;
            int bits = all >> 8;
            int flags = bits & 7 | (bits & 8) << 1 | (bits & 48) << 2;
            ready(a, flags, 0, 0x27);
            board.run(1);
            CHECK.due("DAA " + a + " " + flags, board.get(Boards.AF), decimal(a, flags));
        }
        ready(0x15, 0, 0x27, 0x80, 0x27);
        board.run(8);
        CHECK.due("15 + 27", Boards.a(board), 0x42);
        ready(0x42, 0, 0x15, 0x90, 0x27);
        board.run(8);
        CHECK.due("42 - 15", Boards.a(board), 0x27);
    }

    private static void carryAndComplement() {
        int kept = Boards.S | Boards.Z | Boards.P;
        for (int all = 0; all < 256; all++) {
            int flags = all & Boards.ALL_FLAGS;
            int a = all ^ 0x5A;
            ready(a, flags, 0, 0x2F);
            board.run(1);
            CHECK.due("CPL " + a, board.get(Boards.AF), 255 - a << 8 | flags | Boards.H | Boards.N);
            ready(a, flags, 0, 0x37);
            board.run(1);
            CHECK.due("SCF " + flags, board.get(Boards.AF), a << 8 | flags & kept | Boards.C);
            ready(a, flags, 0, 0x3F);
            board.run(1);
            int turned = (flags & Boards.C) != 0 ? Boards.H : Boards.C;
            CHECK.due("CCF " + flags, board.get(Boards.AF), a << 8 | flags & kept | turned);
        }
    }

    private static void shiftsAndBits() {
        for (int code = 0; code < 256; code++) {
            if (code >> 3 == 6) {
                continue;
            }
            for (int value = 0; value < 256; value += code < 64 ? 1 : 3) {
                int flags = value % 2 == 0 ? Boards.ALL_FLAGS : 0;
                oneOfBits(code, value, flags);
                oneOfBits(code, value, flags ^ Boards.C);
            }
        }
    }

    private static void oneOfBits(int code, int value, int flags) {
        int r = code & 7;
        int middle = code >> 3 & 7;
        ready(0, 0, 0, 0xCB, code);
        put(r, value);
        board.set(Boards.AF, board.get(Boards.AF) & 0xFF00 | flags);
        board.run(1);
        int result = value;
        int due = flags;
        if (code < 64) {
            result = moved(middle, value, flags & 1);
            due = signAndZero(result) + even(result) + out(middle, value);
        } else if (code < 128) {
            due = flags & 1 | Boards.H | flag(Boards.Z, (value >> middle) % 2 == 0);
        } else {
            int rest = value - (value & 1 << middle);
            result = code < 192 ? rest : rest + (1 << middle);
        }
        CHECK.due("CB " + code + " of " + value, got(r), result);
        CHECK.due("flags of CB " + code + " of " + value, Boards.f(board), due);
    }

    private static void put(int r, int value) {
        board.set(Boards.HL, 3000);
        if (r == 6) {
            board.poke(3000, value << 24, 1);
        } else {
            int pair = r == 7 ? Boards.AF : Boards.BC + r / 2;
            boolean higher = r == 7 || r % 2 == 0;
            board.set(pair, higher ? value << 8 | 0x11 : 0x2200 | value);
        }
    }

    private static int got(int r) {
        if (r == 6) {
            return board.peek(3000);
        }
        int pair = board.get(r == 7 ? Boards.AF : Boards.BC + r / 2);
        return r == 7 || r % 2 == 0 ? pair >> 8 : pair & 255;
    }

    private static void pairs() {
        for (int hl : PAIRS_OF_INTEREST) {
            for (int value : PAIRS_OF_INTEREST) {
                for (int flags : new int[] {0, 1, Boards.ALL_FLAGS - 1, Boards.ALL_FLAGS}) {
                    addPairs(hl, value, flags);
                    addPairsWithCarry(hl, value, flags);
                    takePairsWithCarry(hl, value, flags);
                }
            }
        }
    }

    private static void pairsReady(int hl, int value, int flags, int... code) {
        ready(0x77, flags, 0, code);
        board.set(Boards.HL, hl);
        board.set(Boards.DE, value);
        board.run(1);
    }

    private static int signedPair(int value) {
        return value > 32767 ? value - 65536 : value;
    }

    private static int goesBeyondPair(int value) {
        return flag(Boards.P, value < -32768 || value > 32767);
    }

    private static int signAndZeroOfPair(int result) {
        return flag(Boards.S, result > 32767) + flag(Boards.Z, result == 0);
    }

    private static void addPairs(int hl, int value, int flags) {
        pairsReady(hl, value, flags, 0x19);
        int due = flags & (Boards.S | Boards.Z | Boards.P)
                | flag(Boards.H, hl % 4096 + value % 4096 > 4095) | flag(Boards.C, hl + value > 65535);
        CHECK.due("ADD HL", board.get(Boards.HL), (hl + value) % 65536);
        CHECK.due("AF of ADD HL " + hl + "," + value, board.get(Boards.AF), 0x7700 | due);
    }

    private static void addPairsWithCarry(int hl, int value, int flags) {
        int c = flags & 1;
        pairsReady(hl, value, flags, 0xED, 0x5A);
        int result = (hl + value + c) % 65536;
        int due = signAndZeroOfPair(result) + flag(Boards.H, hl % 4096 + value % 4096 + c > 4095)
                + goesBeyondPair(signedPair(hl) + signedPair(value) + c)
                + flag(Boards.C, hl + value + c > 65535);
        CHECK.due("ADC HL", board.get(Boards.HL), result);
        CHECK.due("AF of ADC HL " + hl + "," + value, board.get(Boards.AF), 0x7700 | due);
    }

    private static void takePairsWithCarry(int hl, int value, int flags) {
        int c = flags & 1;
        pairsReady(hl, value, flags, 0xED, 0x52);
        int result = (hl - value - c + 131072) % 65536;
        int due = signAndZeroOfPair(result) + flag(Boards.H, hl % 4096 - value % 4096 - c < 0)
                + goesBeyondPair(signedPair(hl) - signedPair(value) - c)
                + Boards.N + flag(Boards.C, hl - value - c < 0);
        CHECK.due("SBC HL", board.get(Boards.HL), result);
        CHECK.due("AF of SBC HL " + hl + "," + value, board.get(Boards.AF), 0x7700 | due);
    }
}
