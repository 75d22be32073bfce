/**
 * "IllegalArgument is thrown where a number is none of those told here. What throws changes nothing."
 * For each number of each call: the first one that is refused on both sides, ones that would be right
 * if they were cut to fewer bits, and the farthest ones. The last ones that are allowed stand in PromisesTest.
 */
public final class RefusedTest {
    private static final Check CHECK = new Check("RefusedTest");
    private static final int MIN = Integer.MIN_VALUE;
    private static final int MAX = Integer.MAX_VALUE;

    public static void main(String[] args) {
        poke();
        peek();
        set();
        get();
        key();
        edge();
        edgeOfAFullTape();
        run();
        count();
        changeNeverThrows();
        CHECK.end();
    }

    private static void wrong(String what, Twins.Call call) {
        Twins.refused(CHECK, what, IllegalArgumentException.class, call);
    }

    // Promise 2: "IllegalArgument: address not 0 .. 4095, many not 1 .. 4."
    private static void poke() {
        for (int address : new int[] {-1, 4096, -4096, 8192, 65535, MIN, MAX}) {
            for (int many : new int[] {1, 4}) {
                wrong("poke(" + address + ", .., " + many + ")", board -> board.poke(address, 0xA1A2A3A4, many));
            }
        }
        for (int many : new int[] {0, 5, -1, 8, 257, MIN, MAX}) {
            for (int address : new int[] {0, 4095}) {
                wrong("poke(" + address + ", .., " + many + ")", board -> board.poke(address, 0xA1A2A3A4, many));
            }
        }
        wrong("poke(-1, .., 0)", board -> board.poke(-1, 0xA1A2A3A4, 0));
        wrong("poke(4096, .., 5)", board -> board.poke(4096, 0xA1A2A3A4, 5));
    }

    // Promise 3: "A byte of MEMORY. IllegalArgument."
    private static void peek() {
        for (int address : new int[] {-1, 4096, -4096, 8192, 65535, MIN, MAX}) {
            wrong("peek(" + address + ")", board -> board.peek(address));
        }
    }

    // Promise 4: "IllegalArgument: value not 0 .. 65535."
    private static void set() {
        for (int value : new int[] {-1, 65536, -65536, 131071, MIN, MAX}) {
            for (int pair = 0; pair <= 9; pair++) {
                int which = pair;
                wrong("set(" + pair + ", " + value + ")", board -> board.set(which, value));
            }
        }
        for (int pair : new int[] {-1, 10, 16, 256, MIN, MAX}) {
            for (int value : new int[] {0, 65535}) {
                wrong("set(" + pair + ", " + value + ")", board -> board.set(pair, value));
            }
        }
        wrong("set(-1, -1)", board -> board.set(-1, -1));
        wrong("set(10, 65536)", board -> board.set(10, 65536));
    }

    // Promise 5: "A REGISTER pair. IllegalArgument."
    private static void get() {
        for (int pair : new int[] {-1, 10, 16, 256, MIN, MAX}) {
            wrong("get(" + pair + ")", board -> board.get(pair));
        }
    }

    // Promise 6: "a ROW 0 .. 7 of keys"; "IllegalArgument: bits not 0 .. 31."
    private static void key() {
        for (int bits : new int[] {-1, 32, -32, 63, 256, MIN, MAX}) {
            for (int row = 0; row <= 7; row++) {
                int which = row;
                wrong("key(" + row + ", " + bits + ")", board -> board.key(which, bits));
            }
        }
        for (int row : new int[] {-1, 8, -8, 15, 256, MIN, MAX}) {
            for (int bits : new int[] {0, 31}) {
                wrong("key(" + row + ", " + bits + ")", board -> board.key(row, bits));
            }
        }
        wrong("key(-1, -1)", board -> board.key(-1, -1));
        wrong("key(8, 32)", board -> board.key(8, 32));
    }

    // Promise 7: "so many T behind the last one .., 1 .. 100,000"; "IllegalArgument."
    private static void edge() {
        for (int gap : new int[] {0, 100_001, -1, -100_000, 65536 * 2, MIN, MAX}) {
            wrong("edge(" + gap + ")", board -> board.edge(gap));
        }
    }

    // Promise 7: "IllegalState: there are 64."
    private static void edgeOfAFullTape() {
        for (int gap : new int[] {1, 2, 100_000}) {
            String what = "edge(" + gap + ") behind 64";
            Twins.refused(CHECK, what, IllegalStateException.class, Twins::withFullTape, board -> board.edge(gap));
        }
        for (int gap : new int[] {0, 100_001, MIN, MAX}) {
            String what = "edge(" + gap + ") behind 64";
            Twins.refused(CHECK, what, IllegalArgumentException.class, Twins::withFullTape, board -> board.edge(gap));
        }
    }

    // Promise 8: "as much more as told, 1 .. 20,000"; "IllegalArgument."
    private static void run() {
        for (int more : new int[] {0, 20_001, -1, -20_000, 65537, MIN, MAX}) {
            wrong("run(" + more + ")", board -> board.run(more));
        }
    }

    // Promise 9: "What = 0 T, .. 7 instructions"; "IllegalArgument."
    private static void count() {
        for (int what : new int[] {-1, 8, -8, 16, 256, MIN, MAX}) {
            wrong("count(" + what + ")", board -> board.count(what));
        }
    }

    // Promise 10 names no exception: what is not kept is NONE.
    private static void changeNeverThrows() {
        for (int k : new int[] {-1, 5, 6, 99, 100, 101, 256, MIN, MAX}) {
            Twins.unchanged(CHECK, "change(" + k + ")", Twins::inHalt,
                    board -> CHECK.due("change(" + k + ")", board.change(k), SpectrumBoard.NONE));
        }
    }
}
