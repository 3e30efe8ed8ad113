import java.util.ArrayList;
import java.util.List;

/** The class and the model give the same answers in many long runs of calls. */
public final class ModelTest {
    private static final int RUNS = 600;
    private static final int CALLS = 120;

    private static long seed;

    public static void main(String[] args) {
        for (int run = 1; run <= RUNS; run++) {
            seed = run;
            oneRun(run);
        }
        for (int run = 1; run <= 20000; run++) {
            seed = 1000000L + run;
            oneText();
        }
        Check.end();
    }

    /** A number from 0 to below a bound: the same ones in each run of the test. */
    private static int any(int bound) {
        seed = seed * 6364136223846793005L + 1442695040888963407L;
        return (int) Long.remainderUnsigned(seed >>> 33, bound);
    }

    private static boolean often() {
        return any(4) != 0;
    }

    // ---- texts

    private static String name() {
        String[] names = {"a", "b", "push", "turn", "process", "xyz", "abcdefgh", "with", "may", "q"};
        return names[any(names.length)];
    }

    private static String value() {
        int[] bounds = {2, 3, 10, 1000, 2000, 1000000};
        return (any(3) == 0 ? "-" : "") + any(bounds[any(bounds.length)]);
    }

    private static String commandText(int slots, int length) {
        String[] plain = {"pop", "dup", "flip", "add", "sub", "mul", "say", "halt"};
        switch (any(9)) {
            case 0: case 1: return "push " + value();
            case 2: return plain[any(8)];
            case 3: return plain[any(7)];
            case 4: return "lay " + any(slots);
            case 5: return "take " + any(slots);
            case 6: return "swap " + any(slots);
            case 7: return (any(2) == 0 ? "jump " : "zero ") + any(Math.min(25, length + 2));
            default: return any(3) == 0 ? "jump 0" : "dup";
        }
    }

    private static String text() {
        int slots = 1 + any(4);
        StringBuilder text = new StringBuilder("desk " + slots + ";");
        int processes = 1 + any(5);
        List<String> names = new ArrayList<>();
        for (int i = 0; i < processes; i++) {
            String name = names.isEmpty() || often() ? name() + (char) ('a' + i) : name();
            name = name.substring(0, Math.min(name.length(), 8));
            if (!names.contains(name)) {
                names.add(name);
                text.append(processText(name, slots));
            }
        }
        int stacks = any(6);
        List<String> places = new ArrayList<>();
        for (int i = 0; i < stacks; i++) {
            String place = any(3) == 0 ? " at " + any(slots) : " with " + names.get(any(names.size()));
            int room = 1 + any(any(2) == 0 ? 4 : 16);
            if (!places.contains(place)) {
                places.add(place);
                text.append("stack ").append(room).append(place);
                for (int k = any(Math.min(room, 5) + 1); k > 0; k--) {
                    text.append(' ').append(value());
                }
                text.append(';');
            }
        }
        return text.toString();
    }

    private static String processText(String name, int slots) {
        StringBuilder text = new StringBuilder("process " + name);
        if (any(2) == 0) {
            text.append(" turn ").append(1 + any(9));
        }
        int may = any(1 << slots) | any(1 << slots);
        if (may != 0) {
            text.append(" may");
            for (int slot = 0; slot < slots; slot++) {
                text.append((may >> slot & 1) != 0 ? " " + slot : "");
            }
        }
        text.append(':');
        int length = any(12);
        for (int i = 0; i < length; i++) {
            text.append(i == 0 ? "" : " ").append(commandText(slots, length));
        }
        return text.append(';').toString();
    }

    /** A text with something changed, left out or put in at some places. */
    private static String spoiled(String text) {
        String[] bits = {"desk", "process", "stack", ";", ":", "-", " ", "0", "1", "9", "24", "25", "may 0", "turn 3",
            "with a", "at 0", "1000000", "pop", "push 1", "a", "z", "A", "\u00ff", "\n", "~", "with zz", ",", "halt",
            "process a:;", "stack 1 at 0;", "stack 2 with a 1;", "pop pop pop pop pop pop pop pop pop pop pop pop"};
        StringBuilder spoiled = new StringBuilder(text);
        for (int k = 1 + any(3); k > 0; k--) {
            int at = any(spoiled.length() + 1);
            int to = Math.min(spoiled.length(), at + (any(2) == 0 ? 0 : any(4)));
            spoiled.replace(at, to, any(3) == 0 ? "" : bits[any(bits.length)]);
        }
        return spoiled.substring(0, Math.min(spoiled.length(), 600));
    }

    private static void oneText() {
        String text = any(10) == 0 ? text() : spoiled(text());
        if (text.length() > 600) {
            return;
        }
        StackDesk desk = new StackDesk();
        Model model = new Model();
        Check.append(desk, text);
        appendToModel(model, text);
        Check.same("load of '" + text + "'", desk.load(), model.load());
        Check.same("errorPosition of '" + text + "'", desk.errorPosition(), model.errorPosition());
        Check.same("process(0, 4) of '" + text + "'", desk.process(0, 4), model.process(0, 4));
    }

    private static void appendToModel(Model model, String text) {
        for (int i = 0; i < text.length(); i++) {
            model.append(new int[] {text.charAt(i), 0, 0, 0, 0});
        }
    }

    // ---- runs of calls

    /** A call of the class or the model; its answer may be a name of an exception. */
    private interface Call {
        double make();
    }

    private static String answer(Call call) {
        try {
            return "" + call.make();
        } catch (RuntimeException e) {
            return "throws " + e.getClass().getSimpleName();
        }
    }

    private static void both(String what, Call desk, Call model) {
        Check.same(what, answer(desk), answer(model));
    }

    private static void oneRun(int run) {
        StackDesk desk = new StackDesk();
        Model model = new Model();
        loadBoth("run " + run, desk, model, text());
        for (int call = 0; call < CALLS; call++) {
            String what = "run " + run + ", call " + call + ": ";
            change(what, desk, model);
            if (any(3) == 0) {
                ask(what, desk, model);
            }
            if (any(12) == 0) {
                askAll(what, desk, model);
            }
        }
        askAll("run " + run + ", end: ", desk, model);
    }

    private static void loadBoth(String what, StackDesk desk, Model model, String text) {
        if (text.length() <= 600) {
            Check.append(desk, text);
            appendToModel(model, text);
        }
        both(what + "load of '" + text + "'", () -> desk.load(), () -> model.load());
        both(what + "errorPosition", () -> desk.errorPosition(), () -> model.errorPosition());
    }

    /** A number of a thing: mostly one that there is. */
    private static int thing(int bound) {
        return any(15) == 0 ? any(bound + 3) - 1 : any(Math.max(bound, 1));
    }

    private static void change(String what, StackDesk desk, Model model) {
        int process = thing(model.count(1));
        int slot = thing(model.count(0));
        int stack = thing(model.count(2));
        boolean on = any(2) == 0;
        switch (any(24)) {
            case 0:
                loadBoth(what, desk, model, any(3) == 0 ? spoiled(text()) : text());
                break;
            case 1: case 2: case 3: case 4: case 5: case 6: case 7: case 8: {
                int turns = any(20) == 0 ? any(400) - 50 : 1 + any(6);
                both(what + "run " + turns, () -> desk.run(turns), () -> model.run(turns));
                break;
            }
            case 9: case 10:
                both(what + "allow", () -> desk.allow(process, slot, on), () -> model.allow(process, slot, on));
                break;
            case 11: {
                int steps = thing(9) + 1;
                both(what + "setTurn", () -> desk.setTurn(process, steps), () -> model.setTurn(process, steps));
                break;
            }
            case 12: case 13: {
                int value = any(10) == 0 ? any(3000000) - 1500000 : any(5) - 2;
                both(what + "put", () -> desk.put(stack, value), () -> model.put(stack, value));
                break;
            }
            case 14: case 15:
                both(what + "hand", () -> desk.hand(slot, process), () -> model.hand(slot, process));
                break;
            case 16:
                both(what + "kill", () -> desk.kill(process), () -> model.kill(process));
                break;
            case 17: case 18: case 19:
                both(what + "wake", () -> desk.wake(process), () -> model.wake(process));
                break;
            default:
                keep(what, desk, model);
                break;
        }
    }

    private static void keep(String what, StackDesk desk, Model model) {
        int place = any(10) == 0 ? any(4) - 1 : any(2);
        if (any(2) == 0) {
            both(what + "undo", () -> desk.undo(), () -> model.undo());
        } else if (any(2) == 0) {
            both(what + "restore", () -> desk.restore(place), () -> model.restore(place));
        } else {
            both(what + "save", () -> {
                desk.save(place);
                return 0;
            }, () -> {
                model.save(place);
                return 0;
            });
        }
    }

    private static void ask(String what, StackDesk desk, Model model) {
        int process = thing(model.count(1));
        int turns = any(10) == 0 ? any(400) - 50 : any(30);
        both(what + "turnsLeft", () -> desk.turnsLeft(), () -> model.turnsLeft());
        both(what + "wouldSay", () -> desk.wouldSay(process, turns), () -> model.wouldSay(process, turns));
        both(what + "wouldFail", () -> desk.wouldFail(process), () -> model.wouldFail(process));
        both(what + "fairest", () -> desk.fairest(), () -> model.fairest());
        both(what + "bestSlot", () -> desk.bestSlot(process), () -> model.bestSlot(process));
        both(what + "helpers", () -> desk.helpers(process), () -> model.helpers(process));
        both(what + "whyStuck", () -> desk.whyStuck(process), () -> model.whyStuck(process));
        both(what + "unfair", () -> desk.unfair(), () -> model.unfair());
        both(what + "hungriest", () -> desk.hungriest(), () -> model.hungriest());
        both(what + "waitShare", () -> desk.waitShare(), () -> model.waitShare());
        both(what + "fullness", () -> desk.fullness(), () -> model.fullness());
        both(what + "stuck", () -> desk.stuck(), () -> model.stuck());
    }

    private static void askAll(String what, StackDesk desk, Model model) {
        for (int k = -1; k <= 11; k++) {
            int n = k;
            both(what + "count " + n, () -> desk.count(n), () -> model.count(n));
            both(what + "slot " + n, () -> desk.slot(n), () -> model.slot(n));
        }
        for (int process = -1; process <= model.count(1); process++) {
            askProcess(what, desk, model, process);
        }
        for (int stack = -1; stack <= model.count(2); stack++) {
            int s = stack;
            for (int k = -1; k <= 16; k++) {
                int n = k;
                both(what + "stack " + s + " " + n, () -> desk.stack(s, n), () -> model.stack(s, n));
                both(what + "number " + s + " " + n, () -> desk.number(s, n), () -> model.number(s, n, true));
            }
        }
        for (int back = -1; back <= 40; back++) {
            int b = back;
            for (int k = -1; k <= 4; k++) {
                int n = k;
                both(what + "trace " + b + " " + n, () -> desk.trace(b, n), () -> model.trace(b, n));
            }
        }
        both(what + "writeStacks", () -> desk.writeStacks(), () -> model.writeStacks());
        int length = model.writeStacks();
        for (int k = -1; k <= length; k++) {
            int n = k;
            both(what + "writtenByte " + n, () -> desk.writtenByte(n), () -> model.writtenByte(n));
        }
    }

    private static void askProcess(String what, StackDesk desk, Model model, int process) {
        for (int k = -1; k <= 25; k++) {
            int n = k;
            both(what + "process " + process + " " + n, () -> desk.process(process, n), () -> model.process(process, n));
            both(what + "said " + process + " " + n, () -> desk.said(process, n), () -> model.said(process, n));
            for (int m = -1; m <= 2; m++) {
                int w = m;
                both(what + "command " + process + " " + n + " " + w, () -> desk.command(process, n, w),
                        () -> model.command(process, n, w));
            }
        }
    }
}
