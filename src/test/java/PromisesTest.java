/**
 * Promises 2 to 10: the boundary cases that their sentences name, each with the last numbers that are
 * allowed. What is refused stands in RefusedTest, promise 1 in NewBoardTest.
 */
public final class PromisesTest {
    private static final Check CHECK = new Check("PromisesTest");

    public static void main(String[] args) {
        pokeFromTheFirstToTheLastAddress();
        pokeAlsoIntoRom();
        pokeOfFewerThanFour();
        pokeAnswersTheAddressBehind();
        pokeOfAnyNumber();
        peekFromTheFirstToTheLastAddress();
        setFromTheLowestToTheHighestValue();
        setOfPcEndsHalt();
        getHasTheHigherRegisterFirst();
        keyOfTheFirstAndTheLastRow();
        keyOfTheLowestAndTheHighestBits();
        firstEdgeIsBehindZero();
        edgesOfTheSmallestAndTheLargestGap();
        sixtyFourEdges();
        runOfTheShortestAndTheLongestTime();
        runEndsAtItsTimeOrAbove();
        runEndsAtATrap();
        countOfAll();
        countOfMoreChangesThanAreKept();
        countOfEachTimeInHaltAndLdir();
        changeFromZeroOn();
        changeOfTheLastThatIsKept();
        CHECK.end();
    }

    // Promise 2: "address not 0 .. 4095, many not 1 .. 4": these are allowed.
    private static void pokeFromTheFirstToTheLastAddress() {
        for (int address : new int[] {0, 4095}) {
            for (int many : new int[] {1, 4}) {
                SpectrumBoard board = new SpectrumBoard();
                CHECK.due("poke", board.poke(address, 0xC1C2C3C4, many), (address + many) % 4096);
                CHECK.due("byte at " + address, board.peek(address), 0xC1);
                int last = (address + many - 1) % 4096;
                CHECK.due("last of " + many, board.peek(last), 0xC0 + many);
                CHECK.due("behind the last", board.peek((last + 1) % 4096), 0);
                CHECK.due("before the first", board.peek((address + 4095) % 4096), 0);
            }
        }
    }

    // Promise 2: "(also ROM)"
    private static void pokeAlsoIntoRom() {
        for (int address : new int[] {0, 1020, 1021, 1022, 1023, 1024}) {
            SpectrumBoard board = new SpectrumBoard();
            board.poke(address, 0xC1C2C3C4, 4);
            for (int k = 0; k < 4; k++) {
                CHECK.due("byte " + k + " from " + address, board.peek(address + k), 0xC1 + k);
            }
        }
    }

    // Promise 2: "of fewer than four the number's highest ones"
    private static void pokeOfFewerThanFour() {
        int[][] want = {{0xC1, 9, 9, 9}, {0xC1, 0xC2, 9, 9}, {0xC1, 0xC2, 0xC3, 9}, {0xC1, 0xC2, 0xC3, 0xC4}};
        for (int many = 1; many <= 4; many++) {
            SpectrumBoard board = new SpectrumBoard();
            board.poke(2000, 0x09090909, 4);
            board.poke(2000, 0xC1C2C3C4, many);
            for (int k = 0; k < 4; k++) {
                CHECK.due("byte " + k + " of " + many, board.peek(2000 + k), want[many - 1][k]);
            }
        }
    }

    // Promise 2: "the address behind, modulo 4096"
    private static void pokeAnswersTheAddressBehind() {
        int[][] rows = {
            {0, 1, 1}, {0, 4, 4}, {1023, 1, 1024}, {4091, 4, 4095}, {4092, 4, 0}, {4093, 4, 1}, {4094, 1, 4095},
            {4094, 2, 0}, {4094, 3, 1}, {4095, 1, 0}, {4095, 2, 1}, {4095, 3, 2}, {4095, 4, 3}};
        for (int[] row : rows) {
            SpectrumBoard board = new SpectrumBoard();
            CHECK.due("poke(" + row[0] + ", .., " + row[1] + ")", board.poke(row[0], 0xC1C2C3C4, row[1]), row[2]);
            for (int k = 0; k < row[1]; k++) {
                CHECK.due("its byte " + k, board.peek((row[0] + k) % 4096), 0xC1 + k);
            }
        }
    }

    // Promise 2: "the highest one of the number first"
    private static void pokeOfAnyNumber() {
        int[][] rows = {
            {0, 0, 0, 0, 0}, {-1, 255, 255, 255, 255}, {1, 0, 0, 0, 1},
            {Integer.MIN_VALUE, 128, 0, 0, 0}, {Integer.MAX_VALUE, 127, 255, 255, 255}};
        for (int[] row : rows) {
            SpectrumBoard board = new SpectrumBoard();
            board.poke(2000, 0x55555555, 4);
            board.poke(2000, row[0], 4);
            for (int k = 0; k < 4; k++) {
                CHECK.due("byte " + k + " of " + row[0], board.peek(2000 + k), row[k + 1]);
            }
        }
    }

    // Promise 3: "A byte of MEMORY."
    private static void peekFromTheFirstToTheLastAddress() {
        for (int value : new int[] {0, 1, 127, 128, 255}) {
            SpectrumBoard board = new SpectrumBoard();
            board.poke(0, value << 24, 1);
            board.poke(4095, (value ^ 255) << 24, 1);
            CHECK.due("peek(0)", board.peek(0), value);
            CHECK.due("peek(4095)", board.peek(4095), value ^ 255);
            CHECK.due("peek(0) again", board.peek(0), value);
        }
    }

    // Promise 4: "value not 0 .. 65535": these are allowed, for each pair 0 .. 9.
    private static void setFromTheLowestToTheHighestValue() {
        for (int pair = 0; pair <= 9; pair++) {
            boolean withFlags = pair == 0 || pair == 4;
            SpectrumBoard board = new SpectrumBoard();
            board.set(pair, 65535);
            for (int other = 0; other <= 9; other++) {
                int want = withFlags ? 0xFFD7 : 65535;
                CHECK.due(other + " behind set of " + pair, board.get(other), other == pair ? want : 0);
            }
            board.set(pair, 0);
            CHECK.due("set(" + pair + ", 0)", board.get(pair), 0);
            board.set(pair, 1);
            CHECK.due("set(" + pair + ", 1)", board.get(pair), 1);
            board.set(pair, 65534);
            CHECK.due("set(" + pair + ", 65534)", board.get(pair), withFlags ? 0xFFD6 : 65534);
        }
    }

    // Promise 4: "9 PC (HALT is over then)"
    private static void setOfPcEndsHalt() {
        for (int pair = 0; pair <= 9; pair++) {
            SpectrumBoard board = Boards.with(0x76, 0x04);
            board.run(1);
            CHECK.due("in HALT", board.count(4), 1);
            board.set(pair, board.get(pair));
            CHECK.due("in HALT behind set of " + pair, board.count(4), pair == 9 ? 0 : 1);
            board.run(1);
            CHECK.due("PC goes on", board.get(Boards.PC), pair == 9 ? 2050 : 2049);
            CHECK.due("B", board.get(Boards.BC), pair == 9 ? 256 : 0);
        }
        SpectrumBoard board = Boards.with(0x76);
        board.run(1);
        board.set(Boards.PC, Boards.CODE);
        board.run(1);
        CHECK.due("HALT once more", board.count(4), 1);
        CHECK.due("behind it", board.get(Boards.PC), 2049);
    }

    // Promise 5: "A REGISTER pair."; Terms: "the higher one first".
    private static void getHasTheHigherRegisterFirst() {
        SpectrumBoard board = Boards.with(0x3E, 0xA1, 0x06, 0xB1, 0x0E, 0xC1, 0x16, 0xD1, 0x1E, 0xE1, 0x26, 0xF1,
                0x2E, 0x91, 0x37);
        board.run(53);
        int[] want = {0xA101, 0xB1C1, 0xD1E1, 0xF191, 0, 0, 0, 0, 0, 2063};
        for (int pair = 0; pair <= 9; pair++) {
            CHECK.due("get(" + pair + ")", board.get(pair), want[pair]);
        }
    }

    private static int in(SpectrumBoard board, int above) {
        Boards.load(board, Boards.CODE, 0xDB, 254);
        board.set(Boards.PC, Boards.CODE);
        board.set(Boards.AF, above << 8);
        board.run(1);
        return Boards.a(board);
    }

    // Promise 6: "a ROW 0 .. 7 of keys"
    private static void keyOfTheFirstAndTheLastRow() {
        for (int row : new int[] {0, 7}) {
            SpectrumBoard board = new SpectrumBoard();
            board.key(row, 21);
            for (int k = 0; k < 8; k++) {
                CHECK.due("row " + k, in(board, 255 & ~(1 << k)), 160 | (k == row ? 21 : 31));
            }
        }
    }

    // Promise 6: "bits not 0 .. 31": these are allowed; "(0: held)"
    private static void keyOfTheLowestAndTheHighestBits() {
        for (int bits = 0; bits <= 31; bits++) {
            SpectrumBoard board = new SpectrumBoard();
            board.key(4, bits);
            CHECK.due("keys " + bits, in(board, 0xEF), 160 | bits);
            board.key(4, 31 - bits);
            CHECK.due("keys turned round", in(board, 0xEF), 160 | 31 - bits);
        }
    }

    // Promise 7: "(the first one behind 0)": also if T is not 0. The port is accessed at 2103 here.
    private static void firstEdgeIsBehindZero() {
        for (int gap : new int[] {1, 2102, 2103, 2104, 100_000}) {
            SpectrumBoard board = Boards.at(2096);
            CHECK.due("first edge", board.edge(gap), 1);
            CHECK.due("ear by a gap of " + gap, in(board, 255) >> 6 & 1, gap < 2103 ? 1 : 0);
        }
    }

    // Promise 7: "so many T behind the last one .., 1 .. 100,000": at 2101, 2102, 102,102 and 102,103.
    private static void edgesOfTheSmallestAndTheLargestGap() {
        int[][] rows = {{2101, 0}, {2102, 1}, {2103, 0}, {102_102, 0}, {102_103, 1}, {102_104, 0}};
        for (int[] row : rows) {
            SpectrumBoard board = Boards.at(row[0] - 7);
            CHECK.due("first", board.edge(2101), 1);
            CHECK.due("smallest", board.edge(1), 2);
            CHECK.due("largest", board.edge(100_000), 3);
            CHECK.due("smallest behind it", board.edge(1), 4);
            CHECK.due("ear at " + row[0], in(board, 255) >> 6 & 1, row[1]);
        }
    }

    // Promise 7: ".. how many. .. IllegalState: there are 64." The last one comes at 6,400,000.
    private static void sixtyFourEdges() {
        SpectrumBoard board = new SpectrumBoard();
        for (int many = 1; many <= 64; many++) {
            CHECK.due("edge", board.edge(100_000), many);
        }
        CHECK.thrown("edge 65", IllegalStateException.class, () -> board.edge(100_000));
        board.poke(3000, 0x76000000, 1);
        board.set(Boards.PC, 3000);
        for (int k = 0; k < 319; k++) {
            board.run(20_000);
        }
        board.run(19_992);
        CHECK.due("T", board.count(0), 6_399_992);
        // The port, waiting for nothing, is accessed at 6,399,999.
        CHECK.due("ear behind 63", in(board, 255) >> 6 & 1, 1);
        CHECK.due("ear behind 64", in(board, 255) >> 6 & 1, 0);
    }

    // Promise 8: "1 .. 20,000"
    private static void runOfTheShortestAndTheLongestTime() {
        SpectrumBoard board = Boards.with(0x76);
        CHECK.due("run(1)", board.run(1), true);
        CHECK.due("T", board.count(0), 4);
        CHECK.due("run(20000)", board.run(20_000), true);
        CHECK.due("T", board.count(0), 20_004);
        CHECK.due("run(19999)", board.run(19_999), true);
        CHECK.due("T", board.count(0), 40_004);
    }

    // Promise 8: "until T is as much more as told .. or above": of instructions of 16 T each.
    private static void runEndsAtItsTimeOrAbove() {
        int[][] rows = {{1, 16}, {15, 16}, {16, 16}, {17, 32}, {31, 32}, {32, 32}, {33, 48}};
        for (int[] row : rows) {
            SpectrumBoard board = Boards.with(0x2A, 0, 0, 0x2A, 0, 0, 0x2A, 0, 0, 0x2A, 0, 0);
            CHECK.due("run(" + row[0] + ")", board.run(row[0]), true);
            CHECK.due("T behind run(" + row[0] + ")", board.count(0), row[1]);
            CHECK.due("instructions", board.count(7), row[1] / 16);
            board.run(1);
            CHECK.due("more is from there on", board.count(0), row[1] + 16);
        }
    }

    // Promise 8: "or a TRAP: whether it came to its end (false: TRAP)"
    private static void runEndsAtATrap() {
        SpectrumBoard board = Boards.with(0xFD);
        CHECK.due("run(1) at a TRAP", board.run(1), false);
        CHECK.due("run(20000) at a TRAP", board.run(20_000), false);
        CHECK.due("T", board.count(0), 0);
        for (int more = 1; more <= 12; more++) {
            board = Boards.with(0x00, 0x00, 0xFD);
            CHECK.due("run(" + more + ") before a TRAP at 8", board.run(more), more <= 8);
            CHECK.due("T", board.count(0), more <= 4 ? 4 : 8);
        }
    }

    // Promise 9: all of 0 .. 7, for the lowest and the highest: LD A,16h; OUT; XOR A; OUT; LD A,16h; OUT; EI; HALT.
    private static void countOfAll() {
        SpectrumBoard board = Boards.at(2100,
                0x3E, 0x16, 0xD3, 254, 0xAF, 0xD3, 254, 0x3E, 0x16, 0xD3, 254, 0xFB, 0x76);
        board.set(Boards.SP, 3000);
        int before = board.count(7);
        board.run(59);
        int[] want = {2159, 6, 1, 3, 1, 1, 0, before + 8};
        for (int what = 0; what <= 7; what++) {
            CHECK.due("count(" + what + ")", board.count(what), want[what]);
        }
        board.run(1845);
        int[] then = {4016, 6, 1, 3, 0, 0, 1, before + 8 + 461};
        for (int what = 0; what <= 7; what++) {
            CHECK.due("count(" + what + ") behind the INTERRUPT", board.count(what), then[what]);
        }
    }

    /** XOR B; OUT (254),A; JR back: each time a change, in three instructions. */
    private static SpectrumBoard changed(int times) {
        SpectrumBoard board = Boards.at(2100, 0xA8, 0xD3, 254, 0x18, 0xFB);
        board.set(Boards.BC, 0x1000);
        board.run(27 * 70);
        for (int k = 70; k < times; k++) {
            oneChangeMore(board);
        }
        return board;
    }

    private static void oneChangeMore(SpectrumBoard board) {
        board.run(1);
        board.run(1);
        board.run(1);
    }

    // Promise 9: "3 how many changes of it there were"; Terms: "the first 100".
    private static void countOfMoreChangesThanAreKept() {
        SpectrumBoard board = changed(99);
        for (int changes = 99; changes <= 103; changes++) {
            CHECK.due("changes", board.count(3), changes);
            CHECK.due("speaker", board.count(2), changes % 2);
            CHECK.due("change(99) of " + changes, board.change(99) != SpectrumBoard.NONE, changes > 99);
            CHECK.due("change(100) of " + changes, board.change(100), SpectrumBoard.NONE);
            CHECK.due("change(101) of " + changes, board.change(101), SpectrumBoard.NONE);
            oneChangeMore(board);
        }
    }

    // Promise 9: "7 instructions (each time in HALT, LDIR too)"
    private static void countOfEachTimeInHaltAndLdir() {
        SpectrumBoard board = Boards.with(0x76);
        for (int times = 1; times <= 5; times++) {
            board.run(1);
            CHECK.due("HALT", board.count(7), times);
            CHECK.due("T", board.count(0), 4 * times);
        }
        board = Boards.with(0xED, 0xB0, 0x00);
        board.set(Boards.HL, 3000);
        board.set(Boards.DE, 3100);
        board.set(Boards.BC, 3);
        int[] times = {21, 42, 58, 62};
        for (int k = 0; k < times.length; k++) {
            board.run(1);
            CHECK.due("LDIR", board.count(7), k + 1);
            CHECK.due("T", board.count(0), times[k]);
        }
    }

    // Promise 10: "for the k-th time, from 0 on; NONE if it is not kept."
    private static void changeFromZeroOn() {
        SpectrumBoard board = new SpectrumBoard();
        CHECK.due("change(0) of none", board.change(0), -1);
        board = Boards.at(2100, 0x3E, 0x10, 0xD3, 254, 0xAF, 0xD3, 254);
        board.run(7);
        CHECK.due("change(0) before", board.change(0), -1);
        board.run(1);
        CHECK.due("change(-1)", board.change(-1), -1);
        CHECK.due("change(0)", board.change(0), 2114);
        CHECK.due("change(1) before", board.change(1), -1);
        board.run(15);
        CHECK.due("change(0) stays", board.change(0), 2114);
        CHECK.due("change(1)", board.change(1), 2129);
        CHECK.due("change(2)", board.change(2), -1);
    }

    // Promise 10: the last that is kept, too, has the T of its port: 4 of the port and 12 of JR came behind.
    private static void changeOfTheLastThatIsKept() {
        SpectrumBoard board = changed(99);
        CHECK.due("change(98)", board.change(98) > board.change(97), true);
        CHECK.due("change(99) before", board.change(99), SpectrumBoard.NONE);
        oneChangeMore(board);
        int last = board.change(99);
        CHECK.due("change(99)", last, board.count(0) - 16);
        oneChangeMore(board);
        CHECK.due("change(99) stays", board.change(99), last);
        CHECK.due("change(100)", board.change(100), SpectrumBoard.NONE);
        CHECK.due("the largest k", board.change(Integer.MAX_VALUE), SpectrumBoard.NONE);
        CHECK.due("the smallest k", board.change(Integer.MIN_VALUE), SpectrumBoard.NONE);
    }
}
