/** A small home computer's board; the document of its promises is ../shared/DOC.md. */
public final class SpectrumBoard {
    public static final int NONE = -1;

    private static final int MOST_TO_RUN = 20_000;

    private final Clock clock;
    private final Memory memory;
    private final Ports ports;
    private final Registers registers;
    private final Processor processor;

    public SpectrumBoard() {
        clock = new Clock();
        memory = new Memory(clock);
        ports = new Ports(clock);
        registers = new Registers();
        processor = new Processor(clock, memory, ports, registers);
    }

    public int poke(int address, int bytes, int many) throws IllegalArgumentException {
        if (!Memory.has(address) || many < 1 || many > 4) {
            throw new IllegalArgumentException();
        }
        for (int k = 0; k < many; k++) {
            memory.put(address + k, bytes >> (24 - 8 * k));
        }
        return Memory.within(address + many);
    }

    public int peek(int address) throws IllegalArgumentException {
        if (!Memory.has(address)) {
            throw new IllegalArgumentException();
        }
        return memory.at(address);
    }

    public void set(int pair, int value) throws IllegalArgumentException {
        if (!Registers.has(pair) || value < 0 || value > 65535) {
            throw new IllegalArgumentException();
        }
        registers.load(pair, value);
        if (pair == Registers.PC) {
            processor.halted = false;
        }
    }

    public int get(int pair) throws IllegalArgumentException {
        if (!Registers.has(pair)) {
            throw new IllegalArgumentException();
        }
        return registers.pair(pair);
    }

    public void key(int row, int bits) throws IllegalArgumentException {
        if (row < 0 || row >= Ports.ROWS || bits < 0 || bits > Ports.NO_KEY) {
            throw new IllegalArgumentException();
        }
        ports.rows[row] = bits;
    }

    public int edge(int gap) throws IllegalArgumentException, IllegalStateException {
        if (gap < 1 || gap > Tape.MOST_GAP) {
            throw new IllegalArgumentException();
        }
        if (ports.tape.isFull()) {
            throw new IllegalStateException();
        }
        return ports.tape.append(gap);
    }

    public boolean run(int more) throws IllegalArgumentException {
        if (more < 1 || more > MOST_TO_RUN) {
            throw new IllegalArgumentException();
        }
        int start = clock.now;
        // Each step takes 4 T or more, so the steps never end the loop before the time does.
        for (int steps = 0; steps < more && clock.now - start < more; steps++) {
            if (!processor.step()) {
                return false;
            }
        }
        return true;
    }

    public int count(int what) throws IllegalArgumentException {
        switch (what) {
            case 0: return clock.now;
            case 1: return ports.border;
            case 2: return ports.speaker;
            case 3: return ports.speakerChanges;
            case 4: return processor.halted ? 1 : 0;
            case 5: return processor.interruptsOn ? 1 : 0;
            case 6: return processor.interrupts;
            case 7: return processor.instructions;
            default: throw new IllegalArgumentException();
        }
    }

    public int change(int k) {
        return ports.timeOfChange(k);
    }

    /** T, and the waiting for the picture. */
    private static final class Clock {
        private static final int FRAME = 4000;
        private static final int LINE = 100;
        private static final int PICTURE_LINES = 20;
        private static final int PICTURE_PART = 64;
        private static final int INTERRUPT_PART = 32;
        private static final int[] WAITS = {6, 5, 4, 3, 2, 1, 0, 0};

        int now;

        void pass(int more) {
            now += more;
        }

        void waitForPictureIf(boolean waits) {
            int inFrame = now % FRAME;
            boolean drawn = inFrame < PICTURE_LINES * LINE && inFrame % LINE < PICTURE_PART;
            if (waits && drawn) {
                now += WAITS[now & 7];
            }
        }

        boolean asksForInterrupt() {
            return now % FRAME < INTERRUPT_PART;
        }
    }

    /** The bytes, as they are (at, put) and as the Z80 reaches them in its time. */
    private static final class Memory {
        private static final int LAST = 4095;
        private static final int ROM_END = 1024;
        private static final int WAITED_END = 2048;
        private static final int FETCH_TIME = 4;
        private static final int ACCESS_TIME = 3;

        private final Clock clock;
        private final int[] bytes = new int[LAST + 1];

        Memory(Clock clock) {
            this.clock = clock;
        }

        static boolean has(int address) {
            return address >= 0 && address <= LAST;
        }

        static int within(int address) {
            return address & LAST;
        }

        int at(int address) {
            return bytes[address & LAST];
        }

        void put(int address, int value) {
            bytes[address & LAST] = value & 255;
        }

        int fetch(int address) {
            clock.waitForPictureIf(isWaitedFor(address));
            clock.pass(FETCH_TIME);
            return at(address);
        }

        int read(int address) {
            clock.waitForPictureIf(isWaitedFor(address));
            clock.pass(ACCESS_TIME);
            return at(address);
        }

        void write(int address, int value) {
            clock.waitForPictureIf(isWaitedFor(address));
            clock.pass(ACCESS_TIME);
            if (within(address) >= ROM_END) {
                put(address, value);
            }
        }

        private static boolean isWaitedFor(int address) {
            int place = address & LAST;
            return place >= ROM_END && place < WAITED_END;
        }
    }

    /** The EDGES, at times that only grow, as each has a gap of 1 or more. */
    private static final class Tape {
        private static final int MOST_EDGES = 64;
        private static final int MOST_GAP = 100_000;

        private final int[] times = new int[MOST_EDGES];
        private int edges;
        private int lastTime;

        boolean isFull() {
            return edges >= MOST_EDGES;
        }

        int append(int gap) {
            lastTime += gap;
            times[edges] = lastTime;
            edges++;
            return edges;
        }

        int ear(int now) {
            int before = 0;
            while (before < edges && times[before] < now) {
                before++;
            }
            return before & 1;
        }
    }

    /** What hangs on the one port: keys, tape, border and speaker. */
    private static final class Ports {
        private static final int ROWS = 8;
        private static final int NO_KEY = 31;
        private static final int KEPT_CHANGES = 100;
        private static final int OWN_PORT = 254;
        private static final int ALWAYS_ONE = 128 | 32;
        private static final int EMPTY_PORT = 255;
        private static final int ACCESS_TIME = 4;

        private final Clock clock;
        final Tape tape = new Tape();
        final int[] rows = {NO_KEY, NO_KEY, NO_KEY, NO_KEY, NO_KEY, NO_KEY, NO_KEY, NO_KEY};
        int border;
        int speaker;
        int speakerChanges;
        private final int[] changeTimes = new int[KEPT_CHANGES];

        Ports(Clock clock) {
            this.clock = clock;
        }

        int input(int port, int above) {
            clock.waitForPictureIf(isWaitedFor(port));
            int value = EMPTY_PORT;
            if (port == OWN_PORT) {
                value = ALWAYS_ONE | tape.ear(clock.now) << 6 | keysOf(above);
            }
            clock.pass(ACCESS_TIME);
            return value;
        }

        void output(int port, int value) {
            clock.waitForPictureIf(isWaitedFor(port));
            if (port == OWN_PORT) {
                border = value & 7;
                moveSpeaker(value >> 4 & 1);
            }
            clock.pass(ACCESS_TIME);
        }

        int timeOfChange(int k) {
            return isKept(k) && k < speakerChanges ? changeTimes[k] : NONE;
        }

        private static boolean isKept(int k) {
            return k >= 0 && k < KEPT_CHANGES;
        }

        private static boolean isWaitedFor(int port) {
            return (port & 1) == 0;
        }

        private int keysOf(int above) {
            int keys = NO_KEY;
            for (int row = 0; row < ROWS; row++) {
                if ((above >> row & 1) == 0) {
                    keys &= rows[row];
                }
            }
            return keys;
        }

        private void moveSpeaker(int place) {
            if (place == speaker) {
                return;
            }
            speaker = place;
            if (isKept(speakerChanges)) {
                changeTimes[speakerChanges] = clock.now;
            }
            speakerChanges++;
        }
    }

    /** The REGISTERS, held as pairs in the order in which the document numbers them. */
    private static final class Registers {
        static final int AF = 0;
        static final int BC = 1;
        static final int DE = 2;
        static final int HL = 3;
        static final int OTHERS = 4;
        static final int SP = 8;
        static final int PC = 9;
        static final int B = 0;
        static final int A = 7;
        private static final int PAIRS = 10;
        private static final int F_BITS = 0xFF00 | 128 | 64 | 16 | 4 | 2 | 1;

        private final int[] pairs = new int[PAIRS];

        static boolean has(int pair) {
            return pair >= 0 && pair < PAIRS;
        }

        int pair(int which) {
            return pairs[which];
        }

        void load(int which, int value) {
            boolean withFlags = which == AF || which == AF + OTHERS;
            pairs[which] = value & (withFlags ? F_BITS : 0xFFFF);
        }

        void move(int which, int distance) {
            load(which, pairs[which] + distance);
        }

        void exchange(int one, int other) {
            int kept = pairs[one];
            pairs[one] = pairs[other];
            pairs[other] = kept;
        }

        /** r as its three bits tell it, but for (HL), which is no register. */
        int single(int r) {
            int pair = pairs[pairWith(r)];
            return isHigher(r) ? pair >> 8 : pair & 255;
        }

        void loadSingle(int r, int value) {
            int which = pairWith(r);
            int pair = pairs[which];
            pairs[which] = isHigher(r) ? value << 8 | pair & 255 : pair & 0xFF00 | value;
        }

        int flags() {
            return pairs[AF] & 255;
        }

        void loadFlags(int flags) {
            pairs[AF] = pairs[AF] & 0xFF00 | flags;
        }

        private static int pairWith(int r) {
            return r == A ? AF : BC + (r >> 1);
        }

        private static boolean isHigher(int r) {
            return r == A || (r & 1) == 0;
        }
    }

    /** What sets flags. */
    private static final class Arithmetic {
        static final int S = 128;
        static final int Z = 64;
        static final int H = 16;
        static final int P = 4;
        static final int N = 2;
        static final int C = 1;

        private final Registers registers;

        Arithmetic(Registers registers) {
            this.registers = registers;
        }

        /** One of the eight with A, in the order of their three bits. */
        void withA(int kind, int value) {
            int a = registers.single(Registers.A);
            int carry = registers.flags() & C;
            switch (kind) {
                case 0: registers.loadSingle(Registers.A, sum(a, value, 0)); break;
                case 1: registers.loadSingle(Registers.A, sum(a, value, carry)); break;
                case 2: registers.loadSingle(Registers.A, difference(a, value, 0)); break;
                case 3: registers.loadSingle(Registers.A, difference(a, value, carry)); break;
                case 4: logical(a & value, H); break;
                case 5: logical(a ^ value, 0); break;
                case 6: logical(a | value, 0); break;
                default: difference(a, value, 0); break;
            }
        }

        void negate() {
            int a = registers.single(Registers.A);
            registers.loadSingle(Registers.A, difference(0, a, 0));
        }

        private int sum(int one, int other, int carry) {
            int all = one + other + carry;
            int result = all & 255;
            int beyond = (one ^ all) & (other ^ all) & 128;
            int half = (one ^ other ^ all) & H;
            registers.loadFlags(signAndZero(result) | half | beyond >> 5 | all >> 8);
            return result;
        }

        private int difference(int one, int other, int borrow) {
            int all = one - other - borrow;
            int result = all & 255;
            int beyond = (one ^ other) & (one ^ all) & 128;
            int half = (one ^ other ^ all) & H;
            registers.loadFlags(signAndZero(result) | half | beyond >> 5 | N | all >> 8 & C);
            return result;
        }

        private void logical(int result, int half) {
            registers.loadSingle(Registers.A, result);
            registers.loadFlags(signAndZero(result) | even(result) | half);
        }

        int oneMore(int value) {
            int result = value + 1 & 255;
            int half = (result & 15) == 0 ? H : 0;
            int beyond = result == 128 ? P : 0;
            registers.loadFlags(registers.flags() & C | signAndZero(result) | half | beyond);
            return result;
        }

        int oneLess(int value) {
            int result = value - 1 & 255;
            int half = (result & 15) == 15 ? H : 0;
            int beyond = result == 127 ? P : 0;
            registers.loadFlags(registers.flags() & C | signAndZero(result) | half | beyond | N);
            return result;
        }

        void addToHl(int value) {
            int hl = registers.pair(Registers.HL);
            int all = hl + value;
            int half = (hl ^ value ^ all) >> 8 & H;
            registers.load(Registers.HL, all);
            registers.loadFlags(registers.flags() & (S | Z | P) | half | all >> 16);
        }

        void addToHlWithCarry(int value) {
            int hl = registers.pair(Registers.HL);
            int all = hl + value + (registers.flags() & C);
            int beyond = (hl ^ all) & (value ^ all) & 0x8000;
            int half = (hl ^ value ^ all) >> 8 & H;
            registers.load(Registers.HL, all);
            registers.loadFlags(signAndZeroOfPair(all) | half | beyond >> 13 | all >> 16);
        }

        void takeFromHlWithCarry(int value) {
            int hl = registers.pair(Registers.HL);
            int all = hl - value - (registers.flags() & C);
            int beyond = (hl ^ value) & (hl ^ all) & 0x8000;
            int half = (hl ^ value ^ all) >> 8 & H;
            registers.load(Registers.HL, all);
            registers.loadFlags(signAndZeroOfPair(all) | half | beyond >> 13 | N | all >> 16 & C);
        }

        /** RLC, RRC, RL, RR, SLA, SRA, (none), SRL in the order of their three bits. */
        int shifted(int kind, int value) {
            int result = moved(kind, value, registers.flags() & C) & 255;
            registers.loadFlags(signAndZero(result) | even(result) | bitOut(kind, value));
            return result;
        }

        void shiftA(int kind) {
            int a = registers.single(Registers.A);
            int flags = registers.flags();
            registers.loadSingle(Registers.A, moved(kind, a, flags & C) & 255);
            registers.loadFlags(flags & (S | Z | P) | bitOut(kind, a));
        }

        private static int moved(int kind, int value, int carry) {
            switch (kind) {
                case 0: return value << 1 | value >> 7;
                case 1: return value >> 1 | value << 7;
                case 2: return value << 1 | carry;
                case 3: return value >> 1 | carry << 7;
                case 4: return value << 1;
                case 5: return value >> 1 | value & 128;
                default: return value >> 1;
            }
        }

        private static int bitOut(int kind, int value) {
            boolean left = (kind & 1) == 0;
            return left ? value >> 7 : value & 1;
        }

        void testBit(int bit, int value) {
            int zero = (value >> bit & 1) == 0 ? Z : 0;
            registers.loadFlags(registers.flags() & C | zero | H);
        }

        void adjustDecimal() {
            int a = registers.single(Registers.A);
            int flags = registers.flags();
            int correction = (flags & H) != 0 || (a & 15) > 9 ? 6 : 0;
            int carry = (flags & C) != 0 || a > 153 ? C : 0;
            correction += 96 * carry;
            int result = ((flags & N) != 0 ? a - correction : a + correction) & 255;
            int half = (a ^ result) & H;
            registers.loadSingle(Registers.A, result);
            registers.loadFlags(signAndZero(result) | even(result) | half | flags & N | carry);
        }

        void turnRoundA() {
            registers.loadSingle(Registers.A, registers.single(Registers.A) ^ 255);
            registers.loadFlags(registers.flags() | H | N);
        }

        void setCarry() {
            registers.loadFlags(registers.flags() & (S | Z | P) | C);
        }

        void turnRoundCarry() {
            int flags = registers.flags();
            boolean carry = (flags & C) != 0;
            registers.loadFlags(flags & (S | Z | P) | (carry ? H : C));
        }

        private static int signAndZero(int result) {
            return result & S | (result == 0 ? Z : 0);
        }

        private static int signAndZeroOfPair(int all) {
            return all >> 8 & S | ((all & 0xFFFF) == 0 ? Z : 0);
        }

        private static int even(int result) {
            return (Integer.bitCount(result) & 1) == 0 ? P : 0;
        }
    }

    /** How instructions reach what they work on. */
    private static final class Operands {
        private static final int AT_HL = 6;
        private static final int[] FLAG_OF_CONDITION =
                {Arithmetic.Z, Arithmetic.C, Arithmetic.P, Arithmetic.S};

        private final Memory memory;
        private final Registers registers;

        Operands(Memory memory, Registers registers) {
            this.memory = memory;
            this.registers = registers;
        }

        static boolean isAtHl(int r) {
            return r == AT_HL;
        }

        static int pairOf(int p) {
            return p == 3 ? Registers.SP : Registers.BC + p;
        }

        static int stackPairOf(int p) {
            return p == 3 ? Registers.AF : Registers.BC + p;
        }

        boolean holds(int condition) {
            boolean wanted = (condition & 1) != 0;
            int flag = FLAG_OF_CONDITION[condition >> 1 & 3];
            return ((registers.flags() & flag) != 0) == wanted;
        }

        int fetchNext() {
            int value = memory.fetch(registers.pair(Registers.PC));
            registers.move(Registers.PC, 1);
            return value;
        }

        int next() {
            int value = memory.read(registers.pair(Registers.PC));
            registers.move(Registers.PC, 1);
            return value;
        }

        int nextPair() {
            int place = registers.pair(Registers.PC);
            registers.move(Registers.PC, 2);
            int low = memory.read(place);
            return memory.read(place + 1) << 8 | low;
        }

        int value(int r) {
            return isAtHl(r) ? memory.read(registers.pair(Registers.HL)) : registers.single(r);
        }

        void store(int r, int value) {
            if (isAtHl(r)) {
                memory.write(registers.pair(Registers.HL), value);
            } else {
                registers.loadSingle(r, value);
            }
        }

        int readPair(int address) {
            int low = memory.read(address);
            return memory.read(address + 1) << 8 | low;
        }

        void writePair(int address, int value) {
            memory.write(address, value & 255);
            memory.write(address + 1, value >> 8);
        }

        void push(int value) {
            int top = registers.pair(Registers.SP);
            memory.write(top - 1, value >> 8);
            memory.write(top - 2, value & 255);
            registers.move(Registers.SP, -2);
        }

        int pop() {
            int top = registers.pair(Registers.SP);
            registers.move(Registers.SP, 2);
            int low = memory.read(top);
            return memory.read(top + 1) << 8 | low;
        }
    }

    /** The Z80: which instruction comes, and what it does. */
    private static final class Processor {
        private static final int NEG = 0x44;
        private static final int LDI = 0xA0;
        private static final int LDIR = 0xB0;
        private static final int INTERRUPT_ADDRESS = 56;

        private final Clock clock;
        private final Memory memory;
        private final Ports ports;
        private final Registers registers;
        private final Arithmetic arithmetic;
        private final Operands operands;
        boolean halted;
        boolean interruptsOn;
        private boolean justTurnedOn;
        int interrupts;
        int instructions;

        Processor(Clock clock, Memory memory, Ports ports, Registers registers) {
            this.clock = clock;
            this.memory = memory;
            this.ports = ports;
            this.registers = registers;
            arithmetic = new Arithmetic(registers);
            operands = new Operands(memory, registers);
        }

        /** An INTERRUPT or an instruction; false is a TRAP, which has changed nothing. */
        boolean step() {
            if (interruptsOn && !justTurnedOn && clock.asksForInterrupt()) {
                interrupt();
                return true;
            }
            if (!halted && isTrapNext()) {
                return false;
            }
            instructions++;
            if (halted) {
                clock.pass(4);
                return true;
            }
            justTurnedOn = false;
            int code = operands.fetchNext();
            int middle = code >> 3 & 7;
            int last = code & 7;
            switch (code >> 6) {
                case 0: executeFirstQuarter(middle, last); break;
                case 1: loadOrHalt(middle, last); break;
                case 2: arithmetic.withA(middle, operands.value(last)); break;
                default:
                    if (standsAlone(middle, last)) {
                        executeAlone(code);
                    } else {
                        executeLastQuarter(middle, last);
                    }
                    break;
            }
            return true;
        }

        private void interrupt() {
            interrupts++;
            interruptsOn = false;
            halted = false;
            clock.pass(7);
            operands.push(registers.pair(Registers.PC));
            registers.load(Registers.PC, INTERRUPT_ADDRESS);
        }

        // Looking ahead, outside of time, leaves nothing to be undone.
        private boolean isTrapNext() {
            int place = registers.pair(Registers.PC);
            int second = memory.at(place + 1);
            switch (memory.at(place)) {
                case 0xCB: return second >> 3 == 6;
                case 0xDD: return true;
                case 0xED: return !isOfMore(second);
                case 0xFD: return true;
                default: return false;
            }
        }

        private static boolean isOfMore(int second) {
            boolean isWithHl = (second & 0xC7) == 0x42;
            return isWithHl || second == NEG || second == LDI || second == LDIR;
        }

        // What would load (HL) from itself is HALT.
        private void loadOrHalt(int to, int from) {
            if (Operands.isAtHl(to) && Operands.isAtHl(from)) {
                halted = true;
            } else {
                operands.store(to, operands.value(from));
            }
        }

        private void executeFirstQuarter(int middle, int last) {
            switch (last) {
                case 0: jumpNear(middle); break;
                case 1: loadPairOrAdd(middle); break;
                case 2: loadByAddress(middle); break;
                case 3: stepPair(middle); break;
                case 4: stepOperand(middle, true); break;
                case 5: stepOperand(middle, false); break;
                case 6: operands.store(middle, operands.next()); break;
                default: changeA(middle); break;
            }
        }

        private void jumpNear(int middle) {
            switch (middle) {
                case 0: break;
                case 1: registers.exchange(Registers.AF, Registers.AF + Registers.OTHERS); break;
                case 2: clock.pass(1); jumpBy(operands.next(), countDown()); break;
                case 3: jumpBy(operands.next(), true); break;
                default: jumpBy(operands.next(), operands.holds(middle - 4)); break;
            }
        }

        private boolean countDown() {
            int left = registers.single(Registers.B) - 1 & 255;
            registers.loadSingle(Registers.B, left);
            return left != 0;
        }

        private void jumpBy(int distance, boolean goes) {
            if (goes) {
                clock.pass(5);
                registers.move(Registers.PC, (byte) distance);
            }
        }

        private void loadPairOrAdd(int middle) {
            int pair = Operands.pairOf(middle >> 1);
            if ((middle & 1) == 0) {
                registers.load(pair, operands.nextPair());
            } else {
                clock.pass(7);
                arithmetic.addToHl(registers.pair(pair));
            }
        }

        private void loadByAddress(int middle) {
            switch (middle) {
                case 0: storeA(registers.pair(Registers.BC)); break;
                case 1: loadA(registers.pair(Registers.BC)); break;
                case 2: storeA(registers.pair(Registers.DE)); break;
                case 3: loadA(registers.pair(Registers.DE)); break;
                case 4: operands.writePair(operands.nextPair(), registers.pair(Registers.HL)); break;
                case 5: registers.load(Registers.HL, operands.readPair(operands.nextPair())); break;
                case 6: storeA(operands.nextPair()); break;
                default: loadA(operands.nextPair()); break;
            }
        }

        private void storeA(int address) {
            memory.write(address, registers.single(Registers.A));
        }

        private void loadA(int address) {
            registers.loadSingle(Registers.A, memory.read(address));
        }

        private void stepPair(int middle) {
            clock.pass(2);
            registers.move(Operands.pairOf(middle >> 1), (middle & 1) == 0 ? 1 : -1);
        }

        private void stepOperand(int r, boolean up) {
            int value = operands.value(r);
            int result = up ? arithmetic.oneMore(value) : arithmetic.oneLess(value);
            if (Operands.isAtHl(r)) {
                clock.pass(1);
            }
            operands.store(r, result);
        }

        private void changeA(int middle) {
            switch (middle) {
                case 4: arithmetic.adjustDecimal(); break;
                case 5: arithmetic.turnRoundA(); break;
                case 6: arithmetic.setCarry(); break;
                case 7: arithmetic.turnRoundCarry(); break;
                default: arithmetic.shiftA(middle); break;
            }
        }

        // The codes of the last quarter whose middle bits are no r, p, c or number.
        private static boolean standsAlone(int middle, int last) {
            return last == 3 || (middle & 1) != 0 && (last == 1 || last == 5);
        }

        private void executeAlone(int code) {
            switch (code) {
                case 0xC3: jumpTo(operands.nextPair(), true); break;
                case 0xC9: jumpTo(operands.pop(), true); break;
                case 0xCB: executeBits(operands.fetchNext()); break;
                case 0xCD: callTo(operands.nextPair(), true); break;
                case 0xD3: ports.output(operands.next(), registers.single(Registers.A)); break;
                case 0xD9: exchangeWithOthers(); break;
                case 0xDB: inputToA(); break;
                case 0xE3: exchangeHlWithStack(); break;
                case 0xE9: jumpTo(registers.pair(Registers.HL), true); break;
                case 0xEB: registers.exchange(Registers.DE, Registers.HL); break;
                case 0xED: executeMore(operands.fetchNext()); break;
                case 0xF3: interruptsOn = false; break;
                case 0xF9: loadStackFromHl(); break;
                default: turnInterruptsOn(); break;
            }
        }

        private void executeLastQuarter(int middle, int last) {
            switch (last) {
                case 0: returnIf(operands.holds(middle)); break;
                case 1: registers.load(Operands.stackPairOf(middle >> 1), operands.pop()); break;
                case 2: jumpTo(operands.nextPair(), operands.holds(middle)); break;
                case 4: callTo(operands.nextPair(), operands.holds(middle)); break;
                case 5: pushPair(middle >> 1); break;
                case 6: arithmetic.withA(middle, operands.next()); break;
                default: callTo(8 * middle, true); break;
            }
        }

        private void returnIf(boolean goes) {
            clock.pass(1);
            if (goes) {
                registers.load(Registers.PC, operands.pop());
            }
        }

        private void exchangeWithOthers() {
            registers.exchange(Registers.BC, Registers.BC + Registers.OTHERS);
            registers.exchange(Registers.DE, Registers.DE + Registers.OTHERS);
            registers.exchange(Registers.HL, Registers.HL + Registers.OTHERS);
        }

        private void loadStackFromHl() {
            clock.pass(2);
            registers.load(Registers.SP, registers.pair(Registers.HL));
        }

        private void jumpTo(int address, boolean goes) {
            if (goes) {
                registers.load(Registers.PC, address);
            }
        }

        private void callTo(int address, boolean goes) {
            if (goes) {
                clock.pass(1);
                operands.push(registers.pair(Registers.PC));
                registers.load(Registers.PC, address);
            }
        }

        private void inputToA() {
            int port = operands.next();
            int value = ports.input(port, registers.single(Registers.A));
            registers.loadSingle(Registers.A, value);
        }

        private void exchangeHlWithStack() {
            int top = registers.pair(Registers.SP);
            int value = operands.readPair(top);
            clock.pass(1);
            operands.writePair(top, registers.pair(Registers.HL));
            clock.pass(2);
            registers.load(Registers.HL, value);
        }

        private void turnInterruptsOn() {
            interruptsOn = true;
            justTurnedOn = true;
        }

        private void pushPair(int p) {
            clock.pass(1);
            operands.push(registers.pair(Operands.stackPairOf(p)));
        }

        private void executeBits(int code) {
            int r = code & 7;
            int middle = code >> 3 & 7;
            int value = operands.value(r);
            if (Operands.isAtHl(r)) {
                clock.pass(1);
            }
            switch (code >> 6) {
                case 0: operands.store(r, arithmetic.shifted(middle, value)); break;
                case 1: arithmetic.testBit(middle, value); break;
                case 2: operands.store(r, value & ~(1 << middle)); break;
                default: operands.store(r, value | 1 << middle); break;
            }
        }

        private void executeMore(int code) {
            switch (code) {
                case NEG: arithmetic.negate(); break;
                case LDI: copyByte(false); break;
                case LDIR: copyByte(true); break;
                default: calculateWithHl(code >> 3 & 7); break;
            }
        }

        private void calculateWithHl(int middle) {
            clock.pass(7);
            int value = registers.pair(Operands.pairOf(middle >> 1));
            if ((middle & 1) == 0) {
                arithmetic.takeFromHlWithCarry(value);
            } else {
                arithmetic.addToHlWithCarry(value);
            }
        }

        private void copyByte(boolean again) {
            int value = memory.read(registers.pair(Registers.HL));
            memory.write(registers.pair(Registers.DE), value);
            clock.pass(2);
            registers.move(Registers.HL, 1);
            registers.move(Registers.DE, 1);
            registers.move(Registers.BC, -1);
            boolean left = registers.pair(Registers.BC) != 0;
            int kept = registers.flags() & (Arithmetic.S | Arithmetic.Z | Arithmetic.C);
            registers.loadFlags(kept | (left ? Arithmetic.P : 0));
            if (again && left) {
                clock.pass(5);
                registers.move(Registers.PC, -2);
            }
        }
    }
}
