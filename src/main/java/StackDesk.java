/**
 * Processes that swap their stacks by a shared desk. The face is told in
 * ../shared/DOC.md; this class answers its calls, the classes inside it hold
 * the state of a desk, make its steps, read its text and write its stacks.
 *
 * All rows are made by the constructor and used again by every call.
 */
public final class StackDesk {
    public static final int NONE = -1;
    public static final int NOTHING = -1000000;
    public static final int SYNTAX_ERROR = -2;
    public static final int VALUE_ERROR = -3;
    public static final int UNKNOWN = -4;
    public static final int TWICE = -5;
    public static final int TOO_MANY = -6;

    private static final int MAX_SLOTS = 4;
    private static final int MAX_PROCESSES = 8;
    private static final int MAX_STACKS = 12;
    private static final int MAX_ROOM = 16;
    private static final int MAX_NUMBER = 999999;
    private static final int MAX_COMMANDS = 24;
    private static final int MAX_TURN_LENGTH = 9;
    private static final int USUAL_TURN_LENGTH = 3;
    private static final int MAX_TURNS = 300;
    private static final int FAIR_TURNS = 60;
    private static final int KEPT_SAYINGS = 20;
    private static final int KEPT_TRACE = 40;
    private static final int KEPT_CHANGES = 8;
    private static final int SAVE_SLOTS = 2;
    private static final int MAX_TEXT = 600;
    private static final int MAX_NAME = 8;
    /** More than 12 stacks of 16 numbers with 7 signs, commas and names need. */
    private static final int MAX_WRITTEN = 2000;

    private static final int READY = 0;
    private static final int ENDED = 1;
    private static final int FAULTY = 2;

    private static final int PUSH = 0;
    private static final int POP = 1;
    private static final int DUP = 2;
    private static final int FLIP = 3;
    private static final int ADD = 4;
    private static final int SUB = 5;
    private static final int MUL = 6;
    private static final int SAY = 7;
    private static final int LAY = 8;
    private static final int TAKE = 9;
    private static final int SWAP = 10;
    private static final int JUMP = 11;
    private static final int ZERO = 12;
    private static final int HALT = 13;

    private static final int FAULT_NO_STACK = 1;
    private static final int FAULT_NOT_ALLOWED = 2;
    private static final int FAULT_HAND_FULL = 3;
    private static final int FAULT_TOO_FEW = 4;
    private static final int FAULT_NO_ROOM = 5;
    private static final int FAULT_RESULT = 6;

    private static final int WAITS_FOR_EMPTY = 1;
    private static final int WAITS_FOR_STACK = 2;

    private static final int TRACE_DONE = 0;
    private static final int TRACE_BLOCKED = 1;
    private static final int TRACE_FAULT = 10;

    private static final int REFUSED_NO_ROOM = -11;
    private static final int REFUSED_NO_STACK = -12;
    private static final int REFUSED_STACK = -13;
    private static final int REFUSED_NOT_READY = -14;
    private static final int REFUSED_READY = -15;

    private final Desk desk;
    /** A copy of the desk on which is tried what would be. */
    private final Desk trial;
    private final History history;
    private final Desk[] saved;
    private final boolean[] isSaved;
    private final Reader reader;
    private final Writer writer;

    public StackDesk() {
        desk = new Desk();
        desk.begin(1);
        desk.addProc('a');
        trial = new Desk();
        history = new History();
        saved = new Desk[SAVE_SLOTS];
        for (int i = 0; i < saved.length; i++) {
            saved[i] = new Desk();
        }
        isSaved = new boolean[SAVE_SLOTS];
        reader = new Reader();
        writer = new Writer();
    }

    // ---- setup

    public int append(int a, int b, int c, int d, int e) throws IllegalStateException {
        int added = bytesIn(a) + bytesIn(b) + bytesIn(c) + bytesIn(d) + bytesIn(e);
        if (reader.length + added > MAX_TEXT) {
            throw new IllegalStateException("the text would be too long");
        }
        reader.addBytes(a);
        reader.addBytes(b);
        reader.addBytes(c);
        reader.addBytes(d);
        reader.addBytes(e);
        return reader.length;
    }

    public int load() {
        boolean fine = reader.readText();
        reader.length = 0;
        if (!fine) {
            return reader.error;
        }
        history.remember(desk);
        desk.copyFrom(reader.desk);
        return desk.processCount;
    }

    public int errorPosition() {
        return reader.errorAt;
    }

    public int count(int what) throws IllegalArgumentException {
        switch (what) {
            case 0: return desk.slots;
            case 1: return desk.processCount;
            case 2: return desk.pileCount;
            case 3: return desk.turns;
            case 4: return desk.countInState(READY);
            case 5: return desk.countInState(ENDED);
            case 6: return desk.countInState(FAULTY);
            case 7: return desk.allSteps();
            case 8: return desk.log.size();
            case 9: return desk.nextProc();
            case 10: return desk.countInState(READY) > 0 && Turns.isOver(desk) ? 1 : 0;
            default: throw new IllegalArgumentException("no such number of the desk");
        }
    }

    public int process(int process, int what)
            throws IndexOutOfBoundsException, IllegalArgumentException {
        Proc proc = existingProc(process);
        switch (what) {
            case 0: return proc.state;
            case 1: return proc.fault;
            case 2: return proc.place;
            case 3: return proc.held;
            case 4: return proc.commands;
            case 5: return proc.turnLength;
            case 6: return proc.may;
            case 7: return proc.turns;
            case 8: return proc.steps;
            case 9: return proc.waits;
            case 10: return proc.sayCount;
            default: throw new IllegalArgumentException("no such number of a process");
        }
    }

    public int stack(int stack, int what)
            throws IndexOutOfBoundsException, IllegalArgumentException {
        Pile pile = existingPile(stack);
        switch (what) {
            case 0: return pile.room;
            case 1: return pile.size;
            case 2: return pile.holder;
            case 3: return pile.onSlot;
            case 4: return pile.moves;
            default: throw new IllegalArgumentException("no such number of a stack");
        }
    }

    public int number(int stack, int depth) throws IndexOutOfBoundsException {
        return existingPile(stack).numberAt(depth);
    }

    public int slot(int slot) throws IndexOutOfBoundsException {
        checkSlot(slot);
        return desk.lyingOn(slot);
    }

    public int command(int process, int command, int what)
            throws IndexOutOfBoundsException, IllegalArgumentException {
        Proc proc = existingProc(process);
        if (proc.kindAt(command) == NONE) {
            throw new IndexOutOfBoundsException("no such command");
        }
        switch (what) {
            case 0: return proc.kindAt(command);
            case 1: return proc.operandAt(command);
            default: throw new IllegalArgumentException("no such number of a command");
        }
    }

    public int said(int process, int back) throws IndexOutOfBoundsException {
        return existingProc(process).sayingAt(back);
    }

    public int trace(int back, int what)
            throws IndexOutOfBoundsException, IllegalArgumentException {
        if (back < 0 || back >= desk.log.size()) {
            throw new IndexOutOfBoundsException("no such step in the trace");
        }
        if (what < 0 || what > 3) {
            throw new IllegalArgumentException("no such number of a step");
        }
        return desk.log.entry(back, what);
    }

    // ---- waiting and fairness

    public int whyStuck(int process) throws IndexOutOfBoundsException {
        return Turns.waitReason(desk, existingProc(process));
    }

    public int stuck() {
        return Turns.stuckSet(desk);
    }

    public int helpers(int process) throws IndexOutOfBoundsException {
        Proc waiting = existingProc(process);
        int reason = Turns.waitReason(desk, waiting);
        if (reason == 0) {
            return 0;
        }
        int kind = reason == WAITS_FOR_STACK ? LAY : TAKE;
        int slot = waiting.operandAt(waiting.place);
        int set = 0;
        for (int i = 0; i < desk.processCount; i++) {
            Proc other = desk.procAt(i);
            if (i != process && other != null && other.state == READY
                    && other.mayUse(slot) && other.hasCommand(kind, slot)) {
                set |= 1 << i;
            }
        }
        return set;
    }

    public int unfair() {
        return desk.stepSpread();
    }

    public int hungriest() {
        int found = NONE;
        int fewest = 0;
        for (int i = 0; i < desk.processCount; i++) {
            Proc proc = desk.procAt(i);
            if (proc != null && proc.state == READY && (found == NONE || proc.steps < fewest)) {
                found = i;
                fewest = proc.steps;
            }
        }
        return found;
    }

    public double waitShare() {
        int waits = desk.allWaits();
        int all = desk.allSteps() + waits;
        if (all <= 0) {
            return 0.0;
        }
        return (double) waits / (double) all;
    }

    public float fullness() {
        float sum = 0.0f;
        for (int i = 0; i < desk.pileCount; i++) {
            Pile pile = desk.pileAt(i);
            if (pile != null && pile.room > 0) {
                sum += (float) pile.size / (float) pile.room;
            }
        }
        if (desk.pileCount <= 0) {
            return 0.0f;
        }
        return sum / (float) desk.pileCount;
    }

    // ---- what would be

    public int turnsLeft() {
        trial.copyFrom(desk);
        int made = Turns.advance(trial, MAX_TURNS);
        return Turns.isOver(trial) ? made : NONE;
    }

    public int wouldSay(int process, int turns)
            throws IndexOutOfBoundsException, IllegalArgumentException {
        existingProc(process);
        if (turns < 0 || turns > MAX_TURNS) {
            throw new IllegalArgumentException("turns are 0 to 300");
        }
        trial.copyFrom(desk);
        Turns.advance(trial, turns);
        Proc proc = trial.procAt(process);
        return proc == null ? NOTHING : proc.sayingAt(0);
    }

    public int wouldFail(int process) throws IndexOutOfBoundsException {
        existingProc(process);
        trial.copyFrom(desk);
        Turns.advance(trial, MAX_TURNS);
        Proc proc = trial.procAt(process);
        return proc == null ? 0 : proc.fault;
    }

    public int fairest() {
        int best = NONE;
        int least = 0;
        for (int length = 1; length <= MAX_TURN_LENGTH; length++) {
            tryTurnLength(length);
            Turns.advance(trial, FAIR_TURNS);
            int spread = trial.stepSpread();
            if (best == NONE || spread < least) {
                best = length;
                least = spread;
            }
        }
        return best;
    }

    public int bestSlot(int process) throws IndexOutOfBoundsException {
        Proc proc = existingProc(process);
        trial.copyFrom(desk);
        Turns.advance(trial, MAX_TURNS);
        int best = NONE;
        int most = trial.countInState(ENDED);
        for (int slot = 0; slot < desk.slots; slot++) {
            if (!proc.mayUse(slot)) {
                trySlot(process, slot);
                Turns.advance(trial, MAX_TURNS);
                int ended = trial.countInState(ENDED);
                if (ended > most) {
                    best = slot;
                    most = ended;
                }
            }
        }
        return best;
    }

    // ---- changes

    public int run(int turns) throws IllegalArgumentException {
        if (turns < 1 || turns > MAX_TURNS) {
            throw new IllegalArgumentException("turns are 1 to 300");
        }
        history.remember(desk);
        return Turns.advance(desk, turns);
    }

    public int allow(int process, int slot, boolean on) throws IndexOutOfBoundsException {
        Proc proc = existingProc(process);
        checkSlot(slot);
        history.remember(desk);
        int bit = 1 << slot;
        proc.may = on ? proc.may | bit : proc.may & ~bit;
        return proc.may;
    }

    public int setTurn(int process, int steps)
            throws IndexOutOfBoundsException, IllegalArgumentException {
        Proc proc = existingProc(process);
        if (steps < 1 || steps > MAX_TURN_LENGTH) {
            throw new IllegalArgumentException("a turn has 1 to 9 steps");
        }
        history.remember(desk);
        int old = proc.turnLength;
        proc.turnLength = steps;
        return old;
    }

    public int put(int stack, int value)
            throws IndexOutOfBoundsException, IllegalArgumentException {
        Pile pile = existingPile(stack);
        if (value < -MAX_NUMBER || value > MAX_NUMBER) {
            throw new IllegalArgumentException("a number is -999999 to 999999");
        }
        if (pile.isFull()) {
            return REFUSED_NO_ROOM;
        }
        history.remember(desk);
        pile.addTop(value);
        return pile.size;
    }

    public int hand(int slot, int process) throws IndexOutOfBoundsException {
        checkSlot(slot);
        Proc proc = existingProc(process);
        int pile = desk.lyingOn(slot);
        if (pile == NONE) {
            return REFUSED_NO_STACK;
        }
        if (proc.held != NONE) {
            return REFUSED_STACK;
        }
        history.remember(desk);
        desk.setOnSlot(slot, NONE);
        desk.setInHand(process, pile);
        return pile;
    }

    public int kill(int process) throws IndexOutOfBoundsException {
        Proc proc = existingProc(process);
        if (proc.state != READY) {
            return REFUSED_NOT_READY;
        }
        history.remember(desk);
        proc.state = ENDED;
        int pile = proc.held;
        int slot = pile == NONE ? NONE : desk.lowestEmptySlot();
        if (slot != NONE) {
            desk.setInHand(process, NONE);
            desk.setOnSlot(slot, pile);
        }
        return slot;
    }

    public int wake(int process) throws IndexOutOfBoundsException {
        Proc proc = existingProc(process);
        if (proc.state == READY) {
            return REFUSED_READY;
        }
        history.remember(desk);
        int old = proc.state;
        proc.state = READY;
        proc.place = 0;
        proc.fault = 0;
        return old;
    }

    public int undo() throws IllegalStateException {
        if (history.changes <= 0) {
            throw new IllegalStateException("there is no change to undo");
        }
        history.bringBack(desk);
        return history.changes;
    }

    public void save(int slot) throws IndexOutOfBoundsException {
        if (slot < 0 || slot >= saved.length || slot >= isSaved.length) {
            throw new IndexOutOfBoundsException("no such slot for what is saved");
        }
        saved[slot].copyFrom(desk);
        isSaved[slot] = true;
    }

    public int restore(int slot) throws IndexOutOfBoundsException, IllegalStateException {
        if (slot < 0 || slot >= saved.length || slot >= isSaved.length) {
            throw new IndexOutOfBoundsException("no such slot for what is saved");
        }
        if (!isSaved[slot]) {
            throw new IllegalStateException("nothing is saved there");
        }
        history.remember(desk);
        desk.copyFrom(saved[slot]);
        return desk.turns;
    }

    // ---- texts

    public int writeStacks() {
        writer.writePiles(desk);
        return writer.length;
    }

    public int writtenByte(int index) throws IndexOutOfBoundsException {
        if (index < 0 || index >= writer.length || index >= writer.text.length) {
            throw new IndexOutOfBoundsException("no such byte");
        }
        return writer.text[index];
    }

    // ---- helps of the face

    private Proc existingProc(int process) {
        Proc proc = desk.procAt(process);
        if (proc == null) {
            throw new IndexOutOfBoundsException("no such process");
        }
        return proc;
    }

    private Pile existingPile(int stack) {
        Pile pile = desk.pileAt(stack);
        if (pile == null) {
            throw new IndexOutOfBoundsException("no such stack");
        }
        return pile;
    }

    private void checkSlot(int slot) {
        if (!desk.hasSlot(slot)) {
            throw new IndexOutOfBoundsException("no such slot");
        }
    }

    /** How many of the four bytes of an argument are not 0. */
    private static int bytesIn(int four) {
        int found = 0;
        for (int shift = 24; shift >= 0; shift -= 8) {
            if ((four >> shift & 255) != 0) {
                found++;
            }
        }
        return found;
    }

    /** Makes the trial the desk with this length of turns for all processes. */
    private void tryTurnLength(int length) {
        trial.copyFrom(desk);
        for (int i = 0; i < trial.processCount; i++) {
            Proc proc = trial.procAt(i);
            if (proc != null) {
                proc.turnLength = length;
            }
        }
    }

    /** Makes the trial the desk with this slot allowed to a process. */
    private void trySlot(int process, int slot) {
        trial.copyFrom(desk);
        Proc proc = trial.procAt(process);
        if (proc != null) {
            proc.may |= 1 << slot;
        }
    }

    /** A stack: its numbers, its room and where it is. */
    private static final class Pile {
        final int[] numbers = new int[MAX_ROOM];
        int size;
        int room;
        int holder;
        int onSlot;
        int moves;

        void begin(int ofRoom) {
            size = 0;
            room = ofRoom;
            holder = NONE;
            onSlot = NONE;
            moves = 0;
        }

        void copyFrom(Pile other) {
            System.arraycopy(other.numbers, 0, numbers, 0, MAX_ROOM);
            size = other.size;
            room = other.room;
            holder = other.holder;
            onSlot = other.onSlot;
            moves = other.moves;
        }

        boolean isFull() {
            return size >= room;
        }

        int numberAt(int depth) {
            if (depth < 0 || depth >= size || size > numbers.length) {
                return NOTHING;
            }
            return numbers[size - 1 - depth];
        }

        void addTop(int value) {
            if (size >= 0 && size < room && size < numbers.length) {
                numbers[size] = value;
                size++;
            }
        }

        void dropTop() {
            if (size > 0) {
                size--;
            }
        }
    }

    /** A process: its program, what it may do, how it stands and its counts. */
    private static final class Proc {
        final int[] kinds = new int[MAX_COMMANDS];
        final int[] operands = new int[MAX_COMMANDS];
        final int[] sayings = new int[KEPT_SAYINGS];
        /** The letters of the name, a byte each, the last one lowest. */
        long name;
        int commands;
        int turnLength;
        int may;
        int place;
        int state;
        int fault;
        int held;
        int turns;
        int steps;
        int waits;
        int sayCount;

        void begin(long ofName) {
            name = ofName;
            commands = 0;
            turnLength = USUAL_TURN_LENGTH;
            may = 0;
            place = 0;
            state = READY;
            fault = 0;
            held = NONE;
            turns = 0;
            steps = 0;
            waits = 0;
            sayCount = 0;
        }

        void copyFrom(Proc other) {
            System.arraycopy(other.kinds, 0, kinds, 0, MAX_COMMANDS);
            System.arraycopy(other.operands, 0, operands, 0, MAX_COMMANDS);
            System.arraycopy(other.sayings, 0, sayings, 0, KEPT_SAYINGS);
            name = other.name;
            commands = other.commands;
            turnLength = other.turnLength;
            may = other.may;
            place = other.place;
            state = other.state;
            fault = other.fault;
            held = other.held;
            turns = other.turns;
            steps = other.steps;
            waits = other.waits;
            sayCount = other.sayCount;
        }

        void addCommand(int kind, int operand) {
            if (commands >= 0 && commands < kinds.length && commands < operands.length) {
                kinds[commands] = kind;
                operands[commands] = operand;
                commands++;
            }
        }

        /** The command at a place, NONE if there is none. */
        int kindAt(int at) {
            return at >= 0 && at < commands && at < kinds.length ? kinds[at] : NONE;
        }

        int operandAt(int at) {
            return at >= 0 && at < commands && at < operands.length ? operands[at] : 0;
        }

        boolean hasCommand(int kind, int operand) {
            for (int i = 0; i < commands; i++) {
                if (kindAt(i) == kind && operandAt(i) == operand) {
                    return true;
                }
            }
            return false;
        }

        boolean mayUse(int slot) {
            return (may >> slot & 1) != 0;
        }

        void keepSaying(int value) {
            int at = sayCount % KEPT_SAYINGS;
            if (at >= 0 && at < sayings.length) {
                sayings[at] = value;
            }
            sayCount++;
        }

        int sayingAt(int back) {
            if (back < 0 || back >= KEPT_SAYINGS || back >= sayCount) {
                return NOTHING;
            }
            int at = (sayCount - 1 - back) % KEPT_SAYINGS;
            return at >= 0 && at < sayings.length ? sayings[at] : NOTHING;
        }
    }

    /** The trace: its latest steps and waits. */
    private static final class Log {
        final int[] turns = new int[KEPT_TRACE];
        final int[] processes = new int[KEPT_TRACE];
        final int[] commands = new int[KEPT_TRACE];
        final int[] results = new int[KEPT_TRACE];
        int written;

        void copyFrom(Log other) {
            System.arraycopy(other.turns, 0, turns, 0, KEPT_TRACE);
            System.arraycopy(other.processes, 0, processes, 0, KEPT_TRACE);
            System.arraycopy(other.commands, 0, commands, 0, KEPT_TRACE);
            System.arraycopy(other.results, 0, results, 0, KEPT_TRACE);
            written = other.written;
        }

        int size() {
            return Math.min(written, KEPT_TRACE);
        }

        void add(int turn, int process, int command, int result) {
            int at = written % KEPT_TRACE;
            if (at >= 0 && at < KEPT_TRACE) {
                turns[at] = turn;
                processes[at] = process;
                commands[at] = command;
                results[at] = result;
            }
            written++;
        }

        /** One of the four numbers of an entry that is kept. */
        int entry(int back, int what) {
            int at = (written - 1 - back) % KEPT_TRACE;
            if (at < 0 || at >= KEPT_TRACE) {
                return NONE;
            }
            switch (what) {
                case 0: return turns[at];
                case 1: return processes[at];
                case 2: return commands[at];
                default: return results[at];
            }
        }
    }

    /** All that undo brings back. */
    private static final class Desk {
        final Proc[] procs = new Proc[MAX_PROCESSES];
        final Pile[] piles = new Pile[MAX_STACKS];
        /** For each slot the number of the stack that lies there, or NONE. */
        final int[] lying = new int[MAX_SLOTS];
        final Log log = new Log();
        int slots;
        int processCount;
        int pileCount;
        int turns;
        /** The process of the latest turn, NONE at first. */
        int latest;

        Desk() {
            for (int i = 0; i < procs.length; i++) {
                procs[i] = new Proc();
            }
            for (int i = 0; i < piles.length; i++) {
                piles[i] = new Pile();
            }
        }

        void begin(int ofSlots) {
            for (int i = 0; i < lying.length; i++) {
                lying[i] = NONE;
            }
            log.written = 0;
            slots = ofSlots;
            processCount = 0;
            pileCount = 0;
            turns = 0;
            latest = NONE;
        }

        void copyFrom(Desk other) {
            for (int i = 0; i < procs.length && i < other.procs.length; i++) {
                procs[i].copyFrom(other.procs[i]);
            }
            for (int i = 0; i < piles.length && i < other.piles.length; i++) {
                piles[i].copyFrom(other.piles[i]);
            }
            System.arraycopy(other.lying, 0, lying, 0, MAX_SLOTS);
            log.copyFrom(other.log);
            slots = other.slots;
            processCount = other.processCount;
            pileCount = other.pileCount;
            turns = other.turns;
            latest = other.latest;
        }

        /** The new process, or null if there are too many. */
        Proc addProc(long name) {
            if (processCount < 0 || processCount >= procs.length) {
                return null;
            }
            Proc added = procs[processCount];
            added.begin(name);
            processCount++;
            return added;
        }

        /** The new stack, which is nowhere yet, or null if there are too many. */
        Pile addPile(int room) {
            if (pileCount < 0 || pileCount >= piles.length) {
                return null;
            }
            Pile added = piles[pileCount];
            added.begin(room);
            pileCount++;
            return added;
        }

        Proc procAt(int number) {
            return number >= 0 && number < processCount && number < procs.length
                    ? procs[number] : null;
        }

        Pile pileAt(int number) {
            return number >= 0 && number < pileCount && number < piles.length
                    ? piles[number] : null;
        }

        boolean hasSlot(int slot) {
            return slot >= 0 && slot < slots;
        }

        int lyingOn(int slot) {
            return slot >= 0 && slot < lying.length ? lying[slot] : NONE;
        }

        int lowestEmptySlot() {
            for (int slot = 0; slot < slots; slot++) {
                if (lyingOn(slot) == NONE) {
                    return slot;
                }
            }
            return NONE;
        }

        /** Lays a stack that no hand holds on a slot; NONE empties the slot. */
        void setOnSlot(int slot, int number) {
            if (slot >= 0 && slot < lying.length) {
                lying[slot] = number;
            }
            if (number >= 0 && number < piles.length) {
                piles[number].holder = NONE;
                piles[number].onSlot = slot;
            }
        }

        /** Gives a stack that lies on no slot into a hand; NONE empties the hand. */
        void setInHand(int process, int number) {
            if (process >= 0 && process < procs.length) {
                procs[process].held = number;
            }
            if (number >= 0 && number < piles.length) {
                piles[number].holder = process;
                piles[number].onSlot = NONE;
            }
        }

        int procNamed(long name) {
            for (int i = 0; i < processCount && i < procs.length; i++) {
                if (procs[i].name == name) {
                    return i;
                }
            }
            return NONE;
        }

        int countInState(int state) {
            int found = 0;
            for (int i = 0; i < processCount && i < procs.length; i++) {
                if (procs[i].state == state) {
                    found++;
                }
            }
            return found;
        }

        int allSteps() {
            int sum = 0;
            for (int i = 0; i < processCount && i < procs.length; i++) {
                sum += procs[i].steps;
            }
            return sum;
        }

        int allWaits() {
            int sum = 0;
            for (int i = 0; i < processCount && i < procs.length; i++) {
                sum += procs[i].waits;
            }
            return sum;
        }

        /** The greatest number of steps of a process minus the least one. */
        int stepSpread() {
            int most = 0;
            int least = 0;
            for (int i = 0; i < processCount && i < procs.length; i++) {
                most = Math.max(most, procs[i].steps);
                least = i == 0 ? procs[i].steps : Math.min(least, procs[i].steps);
            }
            return most - least;
        }

        /** The ready process whose turn is next, NONE if none is ready. */
        int nextProc() {
            int number = latest;
            for (int i = 0; i < processCount; i++) {
                number = number + 1 < processCount ? number + 1 : 0;
                Proc proc = procAt(number);
                if (proc != null && proc.state == READY) {
                    return number;
                }
            }
            return NONE;
        }
    }

    /** The latest desks that can be brought back, in a ring. */
    private static final class History {
        final Desk[] desks = new Desk[KEPT_CHANGES];
        int changes;
        /** Where the next desk is kept. */
        int next;

        History() {
            for (int i = 0; i < desks.length; i++) {
                desks[i] = new Desk();
            }
        }

        void remember(Desk desk) {
            if (next >= 0 && next < desks.length) {
                desks[next].copyFrom(desk);
            }
            next = (next + 1) % KEPT_CHANGES;
            changes = Math.min(changes + 1, KEPT_CHANGES);
        }

        void bringBack(Desk desk) {
            if (changes <= 0) {
                return;
            }
            next = (next + KEPT_CHANGES - 1) % KEPT_CHANGES;
            changes--;
            if (next >= 0 && next < desks.length) {
                desk.copyFrom(desks[next]);
            }
        }
    }

    /** Steps and turns. */
    private static final class Turns {
        /** Makes turns until so many are made, none is ready or the desk is stuck. */
        static int advance(Desk desk, int turns) {
            int made = 0;
            while (made < turns && !isOver(desk)) {
                makeTurn(desk);
                made++;
            }
            return made;
        }

        /** Whether no process is ready or all that are ready are stuck. */
        static boolean isOver(Desk desk) {
            for (int i = 0; i < desk.processCount; i++) {
                Proc proc = desk.procAt(i);
                if (proc != null && proc.state == READY && waitReason(desk, proc) == 0) {
                    return false;
                }
            }
            return true;
        }

        static int stuckSet(Desk desk) {
            int set = 0;
            for (int i = 0; i < desk.processCount; i++) {
                Proc proc = desk.procAt(i);
                if (proc != null && waitReason(desk, proc) != 0) {
                    set |= 1 << i;
                }
            }
            return set;
        }

        /** Why a process is stuck, 0 if it is not. */
        static int waitReason(Desk desk, Proc proc) {
            int kind = proc.kindAt(proc.place);
            if (proc.state != READY || !isMove(kind)) {
                return 0;
            }
            int slot = proc.operandAt(proc.place);
            // A command that is wrong is never blocked.
            if (moveFault(proc, kind, slot) != 0) {
                return 0;
            }
            boolean empty = desk.lyingOn(slot) == NONE;
            if (kind == LAY) {
                return empty ? 0 : WAITS_FOR_EMPTY;
            }
            return empty ? WAITS_FOR_STACK : 0;
        }

        private static void makeTurn(Desk desk) {
            int number = desk.nextProc();
            Proc proc = desk.procAt(number);
            if (proc == null) {
                return;
            }
            proc.turns++;
            boolean goesOn = true;
            for (int made = 0; goesOn && made < proc.turnLength; made++) {
                goesOn = makeStep(desk, number, proc) && proc.state == READY;
            }
            desk.latest = number;
            desk.turns++;
        }

        /** Makes a step of a ready process, or lets it wait and answers false. */
        private static boolean makeStep(Desk desk, int number, Proc proc) {
            int command = proc.kindAt(proc.place) == NONE ? NONE : proc.place;
            if (waitReason(desk, proc) != 0) {
                proc.waits++;
                desk.log.add(desk.turns, number, command, TRACE_BLOCKED);
                return false;
            }
            proc.steps++;
            int fault = faultOf(desk, proc);
            if (fault != 0) {
                proc.state = FAULTY;
                proc.fault = fault;
                desk.log.add(desk.turns, number, command, TRACE_FAULT + fault);
            } else {
                carryOut(desk, number, proc);
                desk.log.add(desk.turns, number, command, TRACE_DONE);
            }
            return true;
        }

        static boolean isMove(int kind) {
            return kind == LAY || kind == TAKE || kind == SWAP;
        }

        private static int moveFault(Proc proc, int kind, int slot) {
            if (kind != TAKE && proc.held == NONE) {
                return FAULT_NO_STACK;
            }
            if (!proc.mayUse(slot)) {
                return FAULT_NOT_ALLOWED;
            }
            return kind == TAKE && proc.held != NONE ? FAULT_HAND_FULL : 0;
        }

        /** The least fault of the next command, 0 if it is not wrong. */
        private static int faultOf(Desk desk, Proc proc) {
            int kind = proc.kindAt(proc.place);
            if (kind == NONE || kind == JUMP || kind == HALT) {
                return 0;
            }
            if (isMove(kind)) {
                return moveFault(proc, kind, proc.operandAt(proc.place));
            }
            Pile pile = desk.pileAt(proc.held);
            if (pile == null) {
                return FAULT_NO_STACK;
            }
            if (pile.size < numbersNeeded(kind)) {
                return FAULT_TOO_FEW;
            }
            if ((kind == PUSH || kind == DUP) && pile.isFull()) {
                return FAULT_NO_ROOM;
            }
            if (kind == ADD || kind == SUB || kind == MUL) {
                long result = combined(kind, pile.numberAt(1), pile.numberAt(0));
                return result < -MAX_NUMBER || result > MAX_NUMBER ? FAULT_RESULT : 0;
            }
            return 0;
        }

        private static int numbersNeeded(int kind) {
            switch (kind) {
                case POP:
                case DUP:
                case SAY:
                case ZERO:
                    return 1;
                case FLIP:
                case ADD:
                case SUB:
                case MUL:
                    return 2;
                default:
                    return 0;
            }
        }

        private static long combined(int kind, long lower, long top) {
            if (kind == ADD) {
                return lower + top;
            }
            return kind == SUB ? lower - top : lower * top;
        }

        /** Carries out the next command, which is neither wrong nor blocked. */
        private static void carryOut(Desk desk, int number, Proc proc) {
            int kind = proc.kindAt(proc.place);
            int operand = proc.operandAt(proc.place);
            if (kind == NONE || kind == HALT) {
                proc.state = ENDED;
                return;
            }
            proc.place++;
            if (kind == JUMP) {
                proc.place = operand;
            } else if (isMove(kind)) {
                moveStacks(desk, number, operand);
            } else {
                Pile pile = desk.pileAt(proc.held);
                if (pile != null) {
                    work(proc, pile, kind, operand);
                }
            }
        }

        /** What the hand holds and what lies on the slot change places. */
        private static void moveStacks(Desk desk, int number, int slot) {
            Proc proc = desk.procAt(number);
            if (proc == null) {
                return;
            }
            int fromHand = proc.held;
            int fromSlot = desk.lyingOn(slot);
            desk.setInHand(number, fromSlot);
            desk.setOnSlot(slot, fromHand);
            Pile laid = desk.pileAt(fromHand);
            if (laid != null) {
                laid.moves++;
            }
            Pile taken = desk.pileAt(fromSlot);
            if (taken != null) {
                taken.moves++;
            }
        }

        /** Carries out a command on the stack in the hand. */
        private static void work(Proc proc, Pile pile, int kind, int operand) {
            int top = pile.numberAt(0);
            int lower = pile.numberAt(1);
            switch (kind) {
                case PUSH:
                    pile.addTop(operand);
                    break;
                case DUP:
                    pile.addTop(top);
                    break;
                case FLIP:
                    pile.dropTop();
                    pile.dropTop();
                    pile.addTop(top);
                    pile.addTop(lower);
                    break;
                case ADD:
                case SUB:
                case MUL:
                    pile.dropTop();
                    pile.dropTop();
                    pile.addTop((int) combined(kind, lower, top));
                    break;
                case SAY:
                    pile.dropTop();
                    proc.keepSaying(top);
                    break;
                case ZERO:
                    pile.dropTop();
                    if (top == 0) {
                        proc.place = operand;
                    }
                    break;
                default:
                    pile.dropTop();
                    break;
            }
        }
    }

    /** The text buffer and the reading of its text, token by token, into a desk. */
    private static final class Reader {
        /** Tokens that are one sign are told by its byte. */
        private static final int END = -1;
        private static final int WORD = 256;
        private static final int NUMBER = 257;

        final byte[] text = new byte[MAX_TEXT];
        final Desk desk = new Desk();
        int length;
        int error;
        int errorAt = NONE;
        /** The first byte behind the token, and the token's first one. */
        int at;
        int start;
        int token;
        /** The letters of a word as in a name, 0 if they are too many for one. */
        long word;
        /** The value of a token of digits, never more than 1000000. */
        int digits;
        /** The number that was taken last. */
        int taken;

        /** Adds the bytes of an argument that are not 0. */
        void addBytes(int four) {
            for (int shift = 24; shift >= 0; shift -= 8) {
                int one = four >> shift & 255;
                if (one != 0 && length >= 0 && length < text.length) {
                    text[length] = (byte) one;
                    length++;
                }
            }
        }

        /** Reads the text into the desk here; false if there is an error. */
        boolean readText() {
            error = 0;
            errorAt = NONE;
            at = 0;
            next();
            if (!takeWord("desk") || !takeNumber(1, MAX_SLOTS)) {
                return false;
            }
            desk.begin(taken);
            if (!takeSign(';')) {
                return false;
            }
            return readProcesses() && readStacks() && (token == END || fails(SYNTAX_ERROR, start));
        }

        private boolean readProcesses() {
            for (int read = 0; read < MAX_TEXT && (read == 0 || isWord("process")); read++) {
                if (desk.processCount >= MAX_PROCESSES) {
                    return fails(TOO_MANY, start);
                }
                if (!takeWord("process")) {
                    return false;
                }
                Proc proc = readName();
                if (proc == null || !readTurnLength(proc) || !readMay(proc)
                        || !takeSign(':') || !readProgram(proc) || !takeSign(';')) {
                    return false;
                }
            }
            return true;
        }

        /** Reads a new name; answers its process, or null if there is an error. */
        private Proc readName() {
            Proc proc = null;
            if (!isName()) {
                fails(SYNTAX_ERROR, start);
            } else if (desk.procNamed(word) != NONE) {
                fails(TWICE, start);
            } else {
                proc = desk.addProc(word);
                next();
            }
            return proc;
        }

        private boolean readTurnLength(Proc proc) {
            if (!isWord("turn")) {
                return true;
            }
            next();
            if (!takeNumber(1, MAX_TURN_LENGTH)) {
                return false;
            }
            proc.turnLength = taken;
            return true;
        }

        private boolean readMay(Proc proc) {
            if (!isWord("may")) {
                return true;
            }
            next();
            for (int read = 0; read < MAX_TEXT && (read == 0 || token == NUMBER); read++) {
                int where = start;
                if (!takeNumber(0, desk.slots - 1)) {
                    return false;
                }
                if (proc.mayUse(taken)) {
                    return fails(TWICE, where);
                }
                proc.may |= 1 << taken;
            }
            return true;
        }

        private boolean readProgram(Proc proc) {
            for (int read = 0; read < MAX_TEXT && token != ';'; read++) {
                int kind = kindOfWord();
                if (kind == NONE) {
                    return fails(SYNTAX_ERROR, start);
                }
                if (proc.commands >= MAX_COMMANDS) {
                    return fails(TOO_MANY, start);
                }
                next();
                taken = 0;
                if (kind == PUSH && !takeSigned()
                        || Turns.isMove(kind) && !takeNumber(0, desk.slots - 1)
                        || (kind == JUMP || kind == ZERO) && !takeNumber(0, MAX_COMMANDS)) {
                    return false;
                }
                proc.addCommand(kind, taken);
            }
            return true;
        }

        private boolean readStacks() {
            for (int read = 0; read < MAX_TEXT && isWord("stack"); read++) {
                if (desk.pileCount >= MAX_STACKS) {
                    return fails(TOO_MANY, start);
                }
                next();
                if (!takeNumber(1, MAX_ROOM)) {
                    return false;
                }
                Pile pile = desk.addPile(taken);
                if (pile == null) {
                    return fails(TOO_MANY, start);
                }
                if (!readWhere() || !readNumbers(pile) || !takeSign(';')) {
                    return false;
                }
            }
            return true;
        }

        /** Reads where the stack that was added last is. */
        private boolean readWhere() {
            int number = desk.pileCount - 1;
            if (isWord("with")) {
                next();
                return readHolder(number);
            }
            if (!takeWord("at")) {
                return false;
            }
            int where = start;
            if (!takeNumber(0, desk.slots - 1)) {
                return false;
            }
            if (desk.lyingOn(taken) != NONE) {
                return fails(TWICE, where);
            }
            desk.setOnSlot(taken, number);
            return true;
        }

        private boolean readHolder(int number) {
            if (!isName()) {
                return fails(SYNTAX_ERROR, start);
            }
            int process = desk.procNamed(word);
            Proc proc = desk.procAt(process);
            if (proc == null) {
                return fails(UNKNOWN, start);
            }
            if (proc.held != NONE) {
                return fails(TWICE, start);
            }
            desk.setInHand(process, number);
            next();
            return true;
        }

        private boolean readNumbers(Pile pile) {
            for (int read = 0; read < MAX_TEXT && (token == NUMBER || token == '-'); read++) {
                if (pile.isFull()) {
                    return fails(TOO_MANY, start);
                }
                if (!takeSigned()) {
                    return false;
                }
                pile.addTop(taken);
            }
            return true;
        }

        private boolean takeSigned() {
            boolean negative = token == '-';
            if (negative) {
                next();
            }
            if (!takeNumber(0, MAX_NUMBER)) {
                return false;
            }
            taken = negative ? -taken : taken;
            return true;
        }

        private boolean takeNumber(int least, int greatest) {
            if (token != NUMBER) {
                return fails(SYNTAX_ERROR, start);
            }
            if (digits < least || digits > greatest) {
                return fails(VALUE_ERROR, start);
            }
            taken = digits;
            next();
            return true;
        }

        private boolean takeWord(String wanted) {
            if (!isWord(wanted)) {
                return fails(SYNTAX_ERROR, start);
            }
            next();
            return true;
        }

        private boolean takeSign(int wanted) {
            if (token != wanted) {
                return fails(SYNTAX_ERROR, start);
            }
            next();
            return true;
        }

        /** Tells an error and answers false. */
        private boolean fails(int code, int position) {
            error = code;
            errorAt = position;
            return false;
        }

        private boolean isName() {
            return token == WORD && word != 0;
        }

        private boolean isWord(String wanted) {
            return token == WORD && word == lettersOf(wanted);
        }

        private static long lettersOf(String text) {
            long letters = 0;
            for (int i = 0; i < text.length(); i++) {
                letters = letters << 8 | text.charAt(i);
            }
            return letters;
        }

        /** The command that the token names, NONE if it names none. */
        private int kindOfWord() {
            for (int kind = PUSH; kind <= HALT; kind++) {
                if (isWord(wordOf(kind))) {
                    return kind;
                }
            }
            return NONE;
        }

        private static String wordOf(int kind) {
            switch (kind) {
                case PUSH: return "push";
                case POP: return "pop";
                case DUP: return "dup";
                case FLIP: return "flip";
                case ADD: return "add";
                case SUB: return "sub";
                case MUL: return "mul";
                case SAY: return "say";
                case LAY: return "lay";
                case TAKE: return "take";
                case SWAP: return "swap";
                case JUMP: return "jump";
                case ZERO: return "zero";
                default: return "halt";
            }
        }

        /** Goes on to the next token. */
        private void next() {
            int end = length < text.length ? length : text.length;
            while (at < end && text[at] == ' ') {
                at++;
            }
            start = at;
            token = END;
            if (at < end) {
                token = text[at] & 255;
                at++;
            }
            if (token >= 'a' && token <= 'z') {
                word = token;
                token = WORD;
                while (at < end && text[at] >= 'a' && text[at] <= 'z') {
                    word = word << 8 | text[at];
                    at++;
                }
                if (at - start > MAX_NAME) {
                    word = 0;
                }
            } else if (token >= '0' && token <= '9') {
                digits = token - '0';
                token = NUMBER;
                while (at < end && text[at] >= '0' && text[at] <= '9') {
                    digits = Math.min(digits * 10 + text[at] - '0', MAX_NUMBER + 1);
                    at++;
                }
            }
        }
    }

    /** The text of the stacks that was written last. */
    private static final class Writer {
        final byte[] text = new byte[MAX_WRITTEN];
        int length;

        void writePiles(Desk desk) {
            length = 0;
            for (int i = 0; i < desk.pileCount; i++) {
                Pile pile = desk.pileAt(i);
                if (pile == null) {
                    return;
                }
                if (i > 0) {
                    addByte(' ');
                }
                addNumbers(pile);
                Proc holder = desk.procAt(pile.holder);
                if (holder != null) {
                    addByte('@');
                    addName(holder.name);
                } else {
                    addByte('#');
                    addNumber(pile.onSlot);
                }
            }
        }

        private void addNumbers(Pile pile) {
            for (int depth = pile.size - 1; depth >= 0; depth--) {
                addNumber(pile.numberAt(depth));
                if (depth > 0) {
                    addByte(',');
                }
            }
        }

        private void addName(long name) {
            for (int shift = 56; shift >= 0; shift -= 8) {
                int letter = (int) (name >> shift & 255);
                if (letter != 0) {
                    addByte(letter);
                }
            }
        }

        private void addNumber(int number) {
            if (number < 0) {
                addByte('-');
            }
            int rest = number < 0 ? -number : number;
            boolean begun = false;
            for (int unit = 100000; unit >= 1; unit /= 10) {
                int digit = rest / unit % 10;
                begun = begun || digit != 0 || unit == 1;
                if (begun) {
                    addByte('0' + digit);
                }
            }
        }

        private void addByte(int one) {
            if (length >= 0 && length < text.length) {
                text[length] = (byte) one;
                length++;
            }
        }
    }
}
