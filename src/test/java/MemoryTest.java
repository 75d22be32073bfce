/** Promises 2 and 3: poke and peek. */
public final class MemoryTest {
    private static final Check CHECK = new Check("MemoryTest");

    public static void main(String[] args) {
        highestByteComesFirst();
        fewerBytesAreTheHighestOnes();
        endGoesOnAtTheBeginning();
        everyAddressHoldsItsByte();
        wrongNumbersAreRefused();
        CHECK.end();
    }

    private static void highestByteComesFirst() {
        for (int address : new int[] {0, 1020, 1024, 2044, 2048, 4092}) {
            SpectrumBoard board = new SpectrumBoard();
            CHECK.due("poke at " + address, board.poke(address, 0xFE028004, 4), (address + 4) % 4096);
            CHECK.due("first byte", board.peek(address), 0xFE);
            CHECK.due("second byte", board.peek(address + 1), 2);
            CHECK.due("third byte", board.peek(address + 2), 0x80);
            CHECK.due("fourth byte", board.peek(address + 3), 4);
        }
    }

    private static void fewerBytesAreTheHighestOnes() {
        int[] bytes = {0x91, 0xA2, 0xB3, 0xC4};
        for (int many = 1; many <= 4; many++) {
            SpectrumBoard board = new SpectrumBoard();
            board.poke(100, 0x55555555, 4);
            CHECK.due("poke of " + many, board.poke(100, 0x91A2B3C4, many), 100 + many);
            for (int k = 0; k < 4; k++) {
                CHECK.due("byte " + k + " of " + many, board.peek(100 + k), k < many ? bytes[k] : 0x55);
            }
            CHECK.due("byte before", board.peek(99), 0);
            CHECK.due("byte behind", board.peek(104), 0);
        }
    }

    private static void endGoesOnAtTheBeginning() {
        SpectrumBoard board = new SpectrumBoard();
        CHECK.due("poke(4095, .., 1)", board.poke(4095, 0x11223344, 1), 0);
        CHECK.due("poke(4095, .., 4)", board.poke(4095, 0x11223344, 4), 3);
        CHECK.due("peek(4095)", board.peek(4095), 0x11);
        CHECK.due("peek(0)", board.peek(0), 0x22);
        CHECK.due("peek(1)", board.peek(1), 0x33);
        CHECK.due("peek(2)", board.peek(2), 0x44);
        CHECK.due("peek(3)", board.peek(3), 0);
    }

    private static void everyAddressHoldsItsByte() {
        for (int first = 0; first < 4096; first += 200) {
            SpectrumBoard board = new SpectrumBoard();
            int end = Math.min(first + 200, 4096);
            for (int address = first; address < end; address++) {
                board.poke(address, address * 37 << 24, 1);
            }
            for (int address = first; address < end; address++) {
                CHECK.due("peek(" + address + ")", board.peek(address), address * 37 & 255);
            }
        }
    }

    private static void wrongNumbersAreRefused() {
        for (int address : new int[] {-1, 4096, 65535, Integer.MIN_VALUE, Integer.MAX_VALUE}) {
            SpectrumBoard board = new SpectrumBoard();
            CHECK.wrongNumber("poke at " + address, board, () -> board.poke(address, -1, 4));
            CHECK.wrongNumber("peek at " + address, board, () -> board.peek(address));
        }
        for (int many : new int[] {0, -1, 5, Integer.MIN_VALUE, Integer.MAX_VALUE}) {
            SpectrumBoard board = new SpectrumBoard();
            CHECK.wrongNumber("poke of " + many, board, () -> board.poke(0, -1, many));
        }
    }
}
