import java.util.ArrayDeque;
import java.util.ArrayList;
import java.util.Arrays;
import java.util.Deque;
import java.util.HashMap;
import java.util.LinkedHashMap;
import java.util.List;
import java.util.Map;
import java.util.TreeSet;
import java.util.regex.Matcher;
import java.util.regex.Pattern;

/**
 * The document once more, written with the library and without any care for
 * room or speed, to be compared with the class. It keeps whole histories and
 * copies whole worlds.
 */
final class Model {
    /** A stack of the model. */
    private static final class Heap {
        int room;
        Deque<Integer> numbers = new ArrayDeque<>();
        int moves;

        Heap copy() {
            Heap other = new Heap();
            other.room = room;
            other.numbers = new ArrayDeque<>(numbers);
            other.moves = moves;
            return other;
        }
    }

    /** A process of the model. */
    private static final class Worker {
        String name;
        List<String> words = new ArrayList<>();
        List<Integer> operands = new ArrayList<>();
        int length = 3;
        TreeSet<Integer> may = new TreeSet<>();
        int place;
        int state;
        int fault;
        int turns;
        int steps;
        int waits;
        List<Integer> said = new ArrayList<>();

        Worker copy() {
            Worker other = new Worker();
            other.name = name;
            other.words = words;
            other.operands = operands;
            other.length = length;
            other.may = new TreeSet<>(may);
            other.place = place;
            other.state = state;
            other.fault = fault;
            other.turns = turns;
            other.steps = steps;
            other.waits = waits;
            other.said = new ArrayList<>(said);
            return other;
        }
    }

    /** A desk of the model. Where a stack is, is told by two maps. */
    private static final class World {
        int slots;
        List<Worker> workers = new ArrayList<>();
        List<Heap> heaps = new ArrayList<>();
        Map<Integer, Integer> onSlot = new HashMap<>();
        Map<Integer, Integer> inHand = new HashMap<>();
        List<int[]> trace = new ArrayList<>();
        int turns;
        int latest = -1;

        World copy() {
            World other = new World();
            other.slots = slots;
            for (Worker worker : workers) {
                other.workers.add(worker.copy());
            }
            for (Heap heap : heaps) {
                other.heaps.add(heap.copy());
            }
            other.onSlot = new HashMap<>(onSlot);
            other.inHand = new HashMap<>(inHand);
            other.trace = new ArrayList<>(trace);
            other.turns = turns;
            other.latest = latest;
            return other;
        }

        Heap held(int process) {
            Integer number = inHand.get(process);
            return number == null ? null : heaps.get(number);
        }

        /** 0 done next, 1 blocked, 10 plus a fault. */
        int outlook(int process) {
            Worker worker = workers.get(process);
            if (worker.place >= worker.words.size()) {
                return 0;
            }
            String word = worker.words.get(worker.place);
            int operand = worker.operands.get(worker.place);
            TreeSet<Integer> faults = new TreeSet<>();
            boolean uses = word.equals("lay") || word.equals("take") || word.equals("swap");
            Heap heap = held(process);
            if (heap == null && !word.equals("take") && !word.equals("jump") && !word.equals("halt")) {
                faults.add(1);
            }
            if (uses && !worker.may.contains(operand)) {
                faults.add(2);
            }
            if (heap != null && word.equals("take")) {
                faults.add(3);
            }
            if (heap != null) {
                if (heap.numbers.size() < needed(word)) {
                    faults.add(4);
                }
                if ((word.equals("push") || word.equals("dup")) && heap.numbers.size() == heap.room) {
                    faults.add(5);
                }
                if (faults.isEmpty() && Math.abs(result(word, heap)) > 999999) {
                    faults.add(6);
                }
            }
            if (!faults.isEmpty()) {
                return 10 + faults.first();
            }
            return uses && onSlot.containsKey(operand) == word.equals("lay") ? 1 : 0;
        }

        private static int needed(String word) {
            if (word.equals("pop") || word.equals("dup") || word.equals("say") || word.equals("zero")) {
                return 1;
            }
            return "flip add sub mul".contains(word) ? 2 : 0;
        }

        private static long result(String word, Heap heap) {
            if (!word.equals("add") && !word.equals("sub") && !word.equals("mul")) {
                return 0;
            }
            Deque<Integer> numbers = new ArrayDeque<>(heap.numbers);
            long top = numbers.pop();
            long lower = numbers.pop();
            return word.equals("add") ? lower + top : word.equals("sub") ? lower - top : lower * top;
        }

        boolean isStuck(int process) {
            return workers.get(process).state == 0 && outlook(process) == 1;
        }

        int ready() {
            int found = 0;
            for (Worker worker : workers) {
                found += worker.state == 0 ? 1 : 0;
            }
            return found;
        }

        int stuck() {
            int found = 0;
            for (int i = 0; i < workers.size(); i++) {
                found += isStuck(i) ? 1 : 0;
            }
            return found;
        }

        int next() {
            for (int i = latest + 1; i <= latest + workers.size(); i++) {
                if (workers.get(i % workers.size()).state == 0) {
                    return i % workers.size();
                }
            }
            return -1;
        }

        int run(int wanted) {
            for (int made = 0; made < wanted; made++) {
                if (ready() == 0 || ready() == stuck()) {
                    return made;
                }
                int process = next();
                Worker worker = workers.get(process);
                int end = worker.steps + worker.length;
                int waits = worker.waits;
                while (worker.steps < end && worker.state == 0 && worker.waits == waits) {
                    step(process);
                }
                worker.turns++;
                latest = process;
                turns++;
            }
            return wanted;
        }

        private void step(int process) {
            Worker worker = workers.get(process);
            int outlook = outlook(process);
            boolean none = worker.place >= worker.words.size();
            trace.add(new int[] {turns, process, none ? -1 : worker.place, outlook});
            if (outlook == 1) {
                worker.waits++;
                return;
            }
            worker.steps++;
            if (outlook > 10) {
                worker.state = 2;
                worker.fault = outlook - 10;
            } else if (none || worker.words.get(worker.place).equals("halt")) {
                worker.state = 1;
            } else {
                carryOut(process, worker);
            }
        }

        private void carryOut(int process, Worker worker) {
            String word = worker.words.get(worker.place);
            int operand = worker.operands.get(worker.place);
            worker.place++;
            Heap heap = held(process);
            switch (word) {
                case "push" -> heap.numbers.push(operand);
                case "pop" -> heap.numbers.pop();
                case "dup" -> heap.numbers.push(heap.numbers.peek());
                case "flip" -> {
                    int top = heap.numbers.pop();
                    int lower = heap.numbers.pop();
                    heap.numbers.push(top);
                    heap.numbers.push(lower);
                }
                case "add", "sub", "mul" -> {
                    int result = (int) result(word, heap);
                    heap.numbers.pop();
                    heap.numbers.pop();
                    heap.numbers.push(result);
                }
                case "say" -> worker.said.add(heap.numbers.pop());
                case "zero" -> worker.place = heap.numbers.pop() == 0 ? operand : worker.place;
                case "jump" -> worker.place = operand;
                default -> exchange(process, operand);
            }
        }

        private void exchange(int process, int slot) {
            Integer fromHand = inHand.remove(process);
            Integer fromSlot = onSlot.remove(slot);
            if (fromHand != null) {
                onSlot.put(slot, fromHand);
                heaps.get(fromHand).moves++;
            }
            if (fromSlot != null) {
                inHand.put(process, fromSlot);
                heaps.get(fromSlot).moves++;
            }
        }

        int unfair() {
            int[] steps = new int[workers.size()];
            for (int i = 0; i < steps.length; i++) {
                steps[i] = workers.get(i).steps;
            }
            Arrays.sort(steps);
            return steps[steps.length - 1] - steps[0];
        }

        int ended() {
            int found = 0;
            for (Worker worker : workers) {
                found += worker.state == 1 ? 1 : 0;
            }
            return found;
        }
    }

    /** An error of a text. */
    private static final class Fault extends RuntimeException {
        private static final long serialVersionUID = 1L;
        final int code;
        final int position;

        Fault(int code, int position) {
            this.code = code;
            this.position = position;
        }
    }

    private static final List<String> COMMANDS = List.of("push", "pop", "dup", "flip", "add", "sub", "mul",
            "say", "lay", "take", "swap", "jump", "zero", "halt");

    private World world;
    private String buffer = "";
    private int errorPosition = -1;
    private final List<World> history = new ArrayList<>();
    private final World[] saved = new World[2];
    private String written = "";

    private List<String> tokens;
    private List<Integer> starts;
    private int token;

    Model() {
        world = read("desk 1;process a:;");
    }

    // ---- the text

    private World read(String text) {
        tokens = new ArrayList<>();
        starts = new ArrayList<>();
        token = 0;
        Matcher matcher = Pattern.compile("[a-z]+|[0-9]+|[^ ]", Pattern.DOTALL).matcher(text);
        while (matcher.find()) {
            tokens.add(matcher.group());
            starts.add(matcher.start());
        }
        tokens.add("");
        starts.add(text.length());
        World fresh = new World();
        expect("desk");
        fresh.slots = number(1, 4);
        expect(";");
        Map<String, Integer> names = new LinkedHashMap<>();
        do {
            readWorker(fresh, names);
        } while (tokens.get(token).equals("process"));
        while (tokens.get(token).equals("stack")) {
            readHeap(fresh, names);
        }
        expect("");
        return fresh;
    }

    private void readWorker(World fresh, Map<String, Integer> names) {
        if (names.size() == 8) {
            throw new Fault(-6, starts.get(token));
        }
        expect("process");
        Worker worker = new Worker();
        worker.name = name();
        if (names.containsKey(worker.name)) {
            throw new Fault(-5, starts.get(token - 1));
        }
        names.put(worker.name, names.size());
        if (accept("turn")) {
            worker.length = number(1, 9);
        }
        if (accept("may")) {
            do {
                if (!worker.may.add(number(0, fresh.slots - 1))) {
                    throw new Fault(-5, starts.get(token - 1));
                }
            } while (tokens.get(token).matches("[0-9]+"));
        }
        expect(":");
        while (!accept(";")) {
            String word = tokens.get(token);
            if (!COMMANDS.contains(word)) {
                throw new Fault(-2, starts.get(token));
            }
            if (worker.words.size() == 24) {
                throw new Fault(-6, starts.get(token));
            }
            token++;
            worker.words.add(word);
            switch (word) {
                case "push" -> worker.operands.add(signed());
                case "lay", "take", "swap" -> worker.operands.add(number(0, fresh.slots - 1));
                case "jump", "zero" -> worker.operands.add(number(0, 24));
                default -> worker.operands.add(0);
            }
        }
        fresh.workers.add(worker);
    }

    private void readHeap(World fresh, Map<String, Integer> names) {
        if (fresh.heaps.size() == 12) {
            throw new Fault(-6, starts.get(token));
        }
        expect("stack");
        Heap heap = new Heap();
        heap.room = number(1, 16);
        int where;
        Map<Integer, Integer> places;
        if (accept("with")) {
            String name = name();
            if (!names.containsKey(name)) {
                throw new Fault(-4, starts.get(token - 1));
            }
            where = names.get(name);
            places = fresh.inHand;
        } else {
            expect("at");
            where = number(0, fresh.slots - 1);
            places = fresh.onSlot;
        }
        if (places.put(where, fresh.heaps.size()) != null) {
            throw new Fault(-5, starts.get(token - 1));
        }
        while (tokens.get(token).matches("[0-9]+|-")) {
            if (heap.numbers.size() == heap.room) {
                throw new Fault(-6, starts.get(token));
            }
            heap.numbers.push(signed());
        }
        expect(";");
        fresh.heaps.add(heap);
    }

    private boolean accept(String wanted) {
        if (!tokens.get(token).equals(wanted)) {
            return false;
        }
        token++;
        return true;
    }

    private void expect(String wanted) {
        if (!accept(wanted)) {
            throw new Fault(-2, starts.get(token));
        }
    }

    private String name() {
        if (!tokens.get(token).matches("[a-z]{1,8}")) {
            throw new Fault(-2, starts.get(token));
        }
        return tokens.get(token++);
    }

    private int signed() {
        return accept("-") ? -number(0, 999999) : number(0, 999999);
    }

    private int number(int least, int greatest) {
        String digits = tokens.get(token);
        if (!digits.matches("[0-9]+")) {
            throw new Fault(-2, starts.get(token));
        }
        java.math.BigInteger value = new java.math.BigInteger(digits);
        if (value.compareTo(java.math.BigInteger.valueOf(least)) < 0
                || value.compareTo(java.math.BigInteger.valueOf(greatest)) > 0) {
            throw new Fault(-3, starts.get(token));
        }
        token++;
        return value.intValue();
    }

    // ---- the face; a call that throws answers by the name of its exception

    int append(int[] fours) {
        StringBuilder added = new StringBuilder();
        for (int four : fours) {
            for (int k = 3; k >= 0; k--) {
                int one = four >>> (8 * k) & 0xff;
                added.append(one == 0 ? "" : "" + (char) one);
            }
        }
        if (buffer.length() + added.length() > 600) {
            throw new IllegalStateException();
        }
        buffer += added;
        return buffer.length();
    }

    int load() {
        String text = buffer;
        buffer = "";
        try {
            World fresh = read(text);
            change();
            world = fresh;
            errorPosition = -1;
            return world.workers.size();
        } catch (Fault fault) {
            errorPosition = fault.position;
            return fault.code;
        }
    }

    int errorPosition() {
        return errorPosition;
    }

    private void change() {
        history.add(world.copy());
        if (history.size() > 8) {
            history.remove(0);
        }
    }

    private Worker worker(int process) {
        if (process < 0 || process >= world.workers.size()) {
            throw new IndexOutOfBoundsException();
        }
        return world.workers.get(process);
    }

    private Heap heap(int stack) {
        if (stack < 0 || stack >= world.heaps.size()) {
            throw new IndexOutOfBoundsException();
        }
        return world.heaps.get(stack);
    }

    private void checkSlot(int slot) {
        if (slot < 0 || slot >= world.slots) {
            throw new IndexOutOfBoundsException();
        }
    }

    private static int pick(int what, int... values) {
        if (what < 0 || what >= values.length) {
            throw new IllegalArgumentException();
        }
        return values[what];
    }

    private static int keyOf(Map<Integer, Integer> places, int stack) {
        for (Map.Entry<Integer, Integer> entry : places.entrySet()) {
            if (entry.getValue() == stack) {
                return entry.getKey();
            }
        }
        return -1;
    }

    private int sum(boolean waits) {
        int sum = 0;
        for (Worker worker : world.workers) {
            sum += waits ? worker.waits : worker.steps;
        }
        return sum;
    }

    int count(int what) {
        int ready = world.ready();
        int ended = world.ended();
        return pick(what, world.slots, world.workers.size(), world.heaps.size(), world.turns, ready, ended,
                world.workers.size() - ready - ended, sum(false), Math.min(40, world.trace.size()), world.next(),
                ready > 0 && ready == world.stuck() ? 1 : 0);
    }

    int process(int process, int what) {
        Worker worker = worker(process);
        int may = 0;
        for (int slot : worker.may) {
            may += 1 << slot;
        }
        return pick(what, worker.state, worker.fault, worker.place, world.inHand.getOrDefault(process, -1),
                worker.words.size(), worker.length, may, worker.turns, worker.steps, worker.waits,
                worker.said.size());
    }

    int stack(int stack, int what) {
        Heap heap = heap(stack);
        return pick(what, heap.room, heap.numbers.size(), keyOf(world.inHand, stack), keyOf(world.onSlot, stack),
                heap.moves);
    }

    int number(int stack, int depth, boolean face) {
        List<Integer> numbers = new ArrayList<>(heap(stack).numbers);
        return depth < 0 || depth >= numbers.size() ? -1000000 : numbers.get(depth);
    }

    int slot(int slot) {
        checkSlot(slot);
        return world.onSlot.getOrDefault(slot, -1);
    }

    int command(int process, int command, int what) {
        Worker worker = worker(process);
        if (command < 0 || command >= worker.words.size()) {
            throw new IndexOutOfBoundsException();
        }
        return pick(what, COMMANDS.indexOf(worker.words.get(command)), worker.operands.get(command));
    }

    int said(int process, int back) {
        List<Integer> said = worker(process).said;
        return back < 0 || back >= 20 || back >= said.size() ? -1000000 : said.get(said.size() - 1 - back);
    }

    int trace(int back, int what) {
        if (back < 0 || back >= 40 || back >= world.trace.size()) {
            throw new IndexOutOfBoundsException();
        }
        return pick(what, world.trace.get(world.trace.size() - 1 - back));
    }

    int whyStuck(int process) {
        Worker worker = worker(process);
        if (!world.isStuck(process)) {
            return 0;
        }
        return worker.words.get(worker.place).equals("lay") ? 1 : 2;
    }

    int stuck() {
        int set = 0;
        for (int i = 0; i < world.workers.size(); i++) {
            set += world.isStuck(i) ? 1 << i : 0;
        }
        return set;
    }

    int helpers(int process) {
        Worker waiting = worker(process);
        int set = 0;
        if (world.isStuck(process)) {
            int slot = waiting.operands.get(waiting.place);
            String help = waiting.words.get(waiting.place).equals("lay") ? "take" : "lay";
            for (int i = 0; i < world.workers.size(); i++) {
                Worker other = world.workers.get(i);
                boolean can = false;
                for (int c = 0; c < other.words.size(); c++) {
                    can = can || other.words.get(c).equals(help) && other.operands.get(c) == slot;
                }
                set += can && i != process && other.state == 0 && other.may.contains(slot) ? 1 << i : 0;
            }
        }
        return set;
    }

    int unfair() {
        return world.unfair();
    }

    int hungriest() {
        int found = -1;
        for (int i = world.workers.size() - 1; i >= 0; i--) {
            Worker worker = world.workers.get(i);
            if (worker.state == 0 && (found < 0 || worker.steps <= world.workers.get(found).steps)) {
                found = i;
            }
        }
        return found;
    }

    double waitShare() {
        int all = sum(true) + sum(false);
        return all == 0 ? 0 : (double) sum(true) / (double) all;
    }

    float fullness() {
        float sum = 0;
        for (Heap heap : world.heaps) {
            sum += (float) heap.numbers.size() / (float) heap.room;
        }
        return world.heaps.isEmpty() ? 0 : sum / (float) world.heaps.size();
    }

    int turnsLeft() {
        World trial = world.copy();
        for (int turns = 0; turns <= 300; turns++) {
            if (trial.run(1) == 0) {
                return turns;
            }
        }
        return -1;
    }

    int wouldSay(int process, int turns) {
        worker(process);
        if (turns < 0 || turns > 300) {
            throw new IllegalArgumentException();
        }
        World trial = world.copy();
        trial.run(turns);
        List<Integer> said = trial.workers.get(process).said;
        return said.isEmpty() ? -1000000 : said.get(said.size() - 1);
    }

    int wouldFail(int process) {
        worker(process);
        World trial = world.copy();
        trial.run(300);
        return trial.workers.get(process).fault;
    }

    int fairest() {
        int best = 0;
        int least = Integer.MAX_VALUE;
        for (int length = 9; length >= 1; length--) {
            World trial = world.copy();
            for (Worker worker : trial.workers) {
                worker.length = length;
            }
            trial.run(60);
            if (trial.unfair() <= least) {
                least = trial.unfair();
                best = length;
            }
        }
        return best;
    }

    int bestSlot(int process) {
        worker(process);
        World trial = world.copy();
        trial.run(300);
        int most = trial.ended();
        int best = -1;
        for (int slot = 0; slot < world.slots; slot++) {
            trial = world.copy();
            if (trial.workers.get(process).may.add(slot)) {
                trial.run(300);
                if (trial.ended() > most) {
                    most = trial.ended();
                    best = slot;
                }
            }
        }
        return best;
    }

    int run(int turns) {
        if (turns < 1 || turns > 300) {
            throw new IllegalArgumentException();
        }
        change();
        return world.run(turns);
    }

    int allow(int process, int slot, boolean on) {
        worker(process);
        checkSlot(slot);
        change();
        if (on) {
            worker(process).may.add(slot);
        } else {
            worker(process).may.remove(slot);
        }
        return process(process, 6);
    }

    int setTurn(int process, int steps) {
        int before = worker(process).length;
        if (steps < 1 || steps > 9) {
            throw new IllegalArgumentException();
        }
        change();
        worker(process).length = steps;
        return before;
    }

    int put(int stack, int value) {
        Heap heap = heap(stack);
        if (value < -999999 || value > 999999) {
            throw new IllegalArgumentException();
        }
        if (heap.numbers.size() == heap.room) {
            return -11;
        }
        change();
        heap.numbers.push(value);
        return heap.numbers.size();
    }

    int hand(int slot, int process) {
        checkSlot(slot);
        worker(process);
        if (!world.onSlot.containsKey(slot)) {
            return -12;
        }
        if (world.inHand.containsKey(process)) {
            return -13;
        }
        change();
        int stack = world.onSlot.remove(slot);
        world.inHand.put(process, stack);
        return stack;
    }

    int kill(int process) {
        if (worker(process).state != 0) {
            return -14;
        }
        change();
        worker(process).state = 1;
        for (int slot = 0; slot < world.slots && world.inHand.containsKey(process); slot++) {
            if (!world.onSlot.containsKey(slot)) {
                world.onSlot.put(slot, world.inHand.remove(process));
                return slot;
            }
        }
        return -1;
    }

    int wake(int process) {
        Worker worker = worker(process);
        if (worker.state == 0) {
            return -15;
        }
        change();
        int before = worker.state;
        worker.state = 0;
        worker.fault = 0;
        worker.place = 0;
        return before;
    }

    int undo() {
        if (history.isEmpty()) {
            throw new IllegalStateException();
        }
        world = history.remove(history.size() - 1);
        return history.size();
    }

    void save(int slot) {
        if (slot < 0 || slot > 1) {
            throw new IndexOutOfBoundsException();
        }
        saved[slot] = world.copy();
    }

    int restore(int slot) {
        if (slot < 0 || slot > 1) {
            throw new IndexOutOfBoundsException();
        }
        if (saved[slot] == null) {
            throw new IllegalStateException();
        }
        change();
        world = saved[slot].copy();
        return world.turns;
    }

    int writeStacks() {
        List<String> parts = new ArrayList<>();
        for (int i = 0; i < world.heaps.size(); i++) {
            List<String> numbers = new ArrayList<>();
            world.heaps.get(i).numbers.descendingIterator().forEachRemaining(n -> numbers.add("" + n));
            int holder = keyOf(world.inHand, i);
            parts.add(String.join(",", numbers)
                    + (holder >= 0 ? "@" + world.workers.get(holder).name : "#" + keyOf(world.onSlot, i)));
        }
        written = String.join(" ", parts);
        return written.length();
    }

    int writtenByte(int index) {
        if (index < 0 || index >= written.length()) {
            throw new IndexOutOfBoundsException();
        }
        return written.charAt(index);
    }
}
