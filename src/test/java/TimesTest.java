/**
 * Promise 8: T of every instruction, wherever its accesses wait.
 *
 * A pattern has a letter for each access and a digit for each + between them:
 * f FETCH, n byte behind, h (HL), b (BC), e (DE), s and t the pair at SP, u and v what is pushed,
 * x and y the pair at nn, p the port.
 */
public final class TimesTest {
    private static final Check CHECK = new Check("TimesTest");
    private static final int[] WAITS = {6, 5, 4, 3, 2, 1, 0, 0};
    private static final int[] TIMES = {
        0, 28, 29, 30, 31, 32, 33, 34, 35, 55, 60, 61, 62, 63, 64, 70, 98, 99, 100, 101, 102, 103, 104,
        1900, 1955, 1963, 1964, 1990, 1999, 2000, 2010, 3990, 3999, 4000, 4001, 4100, 5963, 5999, 6000};

    public static void main(String[] args) {
        for (int code = 0; code < 256; code++) {
            String pattern = pattern(code);
            if (!pattern.isEmpty()) {
                everywhere(pattern, code, 0x35);
            }
        }
        for (int code = 0; code < 256; code++) {
            if (code >> 3 != 6) {
                everywhere(patternOfBits(code), 0xCB, code);
            }
        }
        everywhere("ff", 0xED, 0x44);
        for (int code : new int[] {0x42, 0x4A, 0x52, 0x5A, 0x62, 0x6A, 0x72, 0x7A}) {
            everywhere("ff7", 0xED, code);
        }
        everywhere("ffhe2", 0xED, 0xA0);
        everywhere("ffhe25", 0xED, 0xB0);
        evenPortsWait();
        CHECK.end();
    }

    /** With all flags 0, and B 5; empty: TRAP or a prefix. */
    private static String pattern(int code) {
        int middle = code >> 3 & 7;
        int last = code & 7;
        if (code == 0x76) {
            return "f";
        }
        switch (code >> 6) {
            case 0: return firstQuarter(middle, last);
            case 1: return last == 6 || middle == 6 ? "fh" : "f";
            case 2: return last == 6 ? "fh" : "f";
            default: return lastQuarter(middle, last);
        }
    }

    private static String firstQuarter(int middle, int last) {
        switch (last) {
            case 0: return new String[] {"f", "f", "f1n5", "fn5", "fn5", "fn", "fn5", "fn"}[middle];
            case 1: return middle % 2 == 0 ? "fnn" : "f7";
            case 2: return new String[] {"fb", "fb", "fe", "fe", "fnnxy", "fnnxy", "fnnx", "fnnx"}[middle];
            case 3: return "f2";
            case 4: return middle == 6 ? "fh1h" : "f";
            case 5: return middle == 6 ? "fh1h" : "f";
            case 6: return middle == 6 ? "fnh" : "fn";
            default: return "f";
        }
    }

    private static String lastQuarter(int middle, int last) {
        boolean goes = middle % 2 == 0;
        switch (last) {
            case 0: return goes ? "f1st" : "f1";
            case 1: return new String[] {"fst", "fst", "fst", "f", "fst", "f", "fst", "f2"}[middle];
            case 2: return "fnn";
            case 3: return new String[] {"fnn", "", "fnp", "fnp", "fst1st2", "f", "f", "f"}[middle];
            case 4: return goes ? "fnn1uv" : "fnn";
            case 5: return new String[] {"f1uv", "fnn1uv", "f1uv", "", "f1uv", "", "f1uv", ""}[middle];
            case 6: return "fn";
            default: return "f1uv";
        }
    }

    private static String patternOfBits(int code) {
        if ((code & 7) != 6) {
            return "ff";
        }
        return code >> 6 == 1 ? "ffh1" : "ffh1h";
    }

    /** Each kind of access is put into waited memory, alone and with all others. */
    private static void everywhere(String pattern, int first, int second) {
        int[] out = {2300, 3000, 3100, 3200, 3300, 3400};
        int[] in = {1030, 1100, 1200, 1300, 1400, 1500};
        for (int time : TIMES) {
            once(time, pattern, first, second, out);
            once(time, pattern, first, second, in);
            for (int k = 0; k < out.length; k++) {
                int[] places = out.clone();
                places[k] = in[k] + 0x2000;
                once(time, pattern, first, second, places);
            }
            once(time, pattern, first, second, new int[] {1022, 3000, 3100, 1025, 1023, 3400});
            once(time, pattern, first, second, new int[] {2046, 2047, 2048, 1024, 2047, 2047});
            once(time, pattern, first, second, new int[] {2047, 1023, 1024, 1023, 1023, 1024});
            once(time, pattern, first, second, new int[] {1023, 3000, 3000, 2049, 3000, 3000});
        }
    }

    private static void once(int time, String pattern, int first, int second, int[] places) {
        boolean address = pattern.startsWith("fnn");
        int code = places[0];
        SpectrumBoard board = Boards.at(time);
        board.set(Boards.HL, places[1]);
        board.set(Boards.BC, pattern.startsWith("fb") ? places[2] : 0x0500);
        board.set(Boards.DE, places[5]);
        board.set(Boards.SP, places[3]);
        board.set(Boards.PC, code);
        int low = address ? places[4] & 255 : second;
        int high = address ? places[4] >> 8 : 0;
        board.poke(code & 4095, first << 24 | low << 16 | high << 8, 3);
        board.run(1);
        String what = pattern + " of " + first + " " + second + " at " + time + " in " + places[0];
        CHECK.due(what, board.count(0), behind(time, pattern, places, low));
    }

    private static int behind(int time, String pattern, int[] places, int port) {
        int now = time;
        int code = places[0];
        for (int k = 0; k < pattern.length(); k++) {
            char token = pattern.charAt(k);
            switch (token) {
                case 'f': now = access(now, code++, 4); break;
                case 'n': now = access(now, code++, 3); break;
                case 'h': now = access(now, places[1], 3); break;
                case 'b': now = access(now, places[2], 3); break;
                case 'e': now = access(now, places[5], 3); break;
                case 's': now = access(now, places[3], 3); break;
                case 't': now = access(now, places[3] + 1, 3); break;
                case 'u': now = access(now, places[3] - 1, 3); break;
                case 'v': now = access(now, places[3] - 2, 3); break;
                case 'x': now = access(now, places[4], 3); break;
                case 'y': now = access(now, places[4] + 1, 3); break;
                case 'p': now = (port % 2 == 0 ? now + wait(now) : now) + 4; break;
                default: now += token - '0'; break;
            }
        }
        return now;
    }

    private static int access(int now, int address, int takes) {
        int place = address % 4096;
        boolean waited = place >= 1024 && place <= 2047;
        return now + (waited ? wait(now) : 0) + takes;
    }

    private static int wait(int now) {
        int line = now % 4000 / 100;
        boolean drawn = line < 20 && now % 100 < 64;
        return drawn ? WAITS[now % 8] : 0;
    }

    private static void evenPortsWait() {
        for (int port = 0; port < 256; port++) {
            for (int time : TIMES) {
                int[] places = {2300, 3000, 3100, 3200, 3300, 3400};
                once(time, "fnp", 0xDB, port, places);
                once(time, "fnp", 0xD3, port, places);
            }
        }
    }
}
