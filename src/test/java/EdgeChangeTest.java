/** The edges of term 5 (changes) and of promises 26 (allow) to 34 (restore). */
public final class EdgeChangeTest {
    private static final String TEXT = "desk 3;process a turn 2 may 0:push 1 dup say jump 0;process b may 0:take 0;"
            + "process c:pop;process d:halt;stack 16 with a 5;stack 2 at 1 8;stack 1 at 2 9;";

    /** A change of a desk that has made five turns of the text. */
    private interface Change {
        void make(StackDesk desk);
    }

    private static final String[] NAMES = {"run", "allow", "allow of what is allowed", "setTurn",
        "setTurn of the same", "put", "hand", "kill", "kill of one with a stack", "wake of a faulty one",
        "wake of an ended one", "restore", "load", "load of the same"};
    private static final Change[] CHANGES = {d -> d.run(1), d -> d.allow(1, 2, true),
        d -> d.allow(0, 0, true), d -> d.setTurn(2, 9), d -> d.setTurn(0, 2), d -> d.put(1, -999999),
        d -> d.hand(2, 1), d -> d.kill(1), d -> d.kill(0), d -> d.wake(2), d -> d.wake(3), d -> d.restore(0),
        d -> Check.load(d, "desk 4;process z may 3:say;stack 2 with z 9;stack 1 at 3;"), d -> Check.load(d, TEXT)};

    public static void main(String[] args) {
        eachIsAChange();
        theLatestEight();
        exactlyEight();
        undoAndAnew();
        undoLeaves();
        refusals();
        refusalsChangeNothing();
        lowestRefusal();
        otherCallsAreNoChanges();
        allow();
        setTurn();
        put();
        hand();
        kill();
        killWithoutSlot();
        wake();
        save();
        restore();
        restoreOfOtherDesk();
        Check.end();
    }

    private static StackDesk fresh() {
        StackDesk desk = Check.desk(TEXT);
        desk.run(4);
        desk.save(0);
        desk.run(3);
        return desk;
    }

    /** "all calls of load, run, allow, setTurn, put, hand, kill, wake and restore that succeed". */
    private static void eachIsAChange() {
        for (int i = 0; i < CHANGES.length; i++) {
            StackDesk desk = fresh();
            String before = Check.state(desk);
            String stacks = Check.written(desk);
            CHANGES[i].make(desk);
            Check.same("undo of " + NAMES[i], desk.undo(), 3);
            Check.same("the desk behind undo of " + NAMES[i], Check.state(desk), before);
            Check.same("the stacks behind undo of " + NAMES[i], Check.written(desk), stacks);
            Check.same("undo of the run ahead of " + NAMES[i], desk.undo(), 2);
        }
        // "also if nothing is another one then".
        StackDesk same = Check.desk("desk 1;process a may 0:take 0;");
        String before = Check.state(same);
        same.save(0);
        same.run(300);
        same.allow(0, 0, true);
        same.allow(0, 0, true);
        same.setTurn(0, 3);
        same.restore(0);
        same.restore(0);
        Check.same("the desk behind changes without a change", Check.state(same), before);
        for (int left = 6; left >= 0; left--) {
            Check.same("undo", same.undo(), left);
        }
        Check.fails("undo of nothing", Check.STATE, same::undo);
    }

    /** "The latest 8 changes can be undone, older ones cannot any more", whichever they are. */
    private static void theLatestEight() {
        for (int first = 0; first < CHANGES.length; first++) {
            StackDesk desk = fresh();
            CHANGES[first].make(desk);
            String[] states = new String[9];
            for (int i = 0; i < 9; i++) {
                states[i] = Check.state(desk);
                desk.setTurn(0, i < 8 ? 1 + i : 9);
            }
            for (int left = 7; left >= 0; left--) {
                Check.same("undo behind " + NAMES[first], desk.undo(), left);
                Check.same("the desk behind " + NAMES[first], Check.state(desk), states[left + 1]);
            }
            Check.fails("a 9th undo behind " + NAMES[first], Check.STATE, desk::undo);
            Check.same("the desk behind a 9th undo", Check.state(desk), states[1]);
            // With 7 changes behind it, it is the oldest one that can be undone.
            desk = fresh();
            String before = Check.state(desk);
            CHANGES[first].make(desk);
            for (int i = 1; i <= 7; i++) {
                desk.setTurn(0, i);
            }
            for (int left = 7; left >= 0; left--) {
                Check.same("undo to " + NAMES[first], desk.undo(), left);
            }
            Check.same("the desk ahead of " + NAMES[first], Check.state(desk), before);
        }
    }

    /** With 7, 8, 9 and more changes. */
    private static void exactlyEight() {
        for (int changes = 0; changes <= 30; changes++) {
            StackDesk desk = new StackDesk();
            for (int i = 0; i < changes; i++) {
                desk.setTurn(0, 1 + i % 9);
            }
            int can = Math.min(changes, 8);
            for (int left = can - 1; left >= 0; left--) {
                Check.same("undo of " + changes, desk.undo(), left);
                int made = changes - can + left;
                Check.same("length behind undo", desk.process(0, 5), made == 0 ? 3 : 1 + (made - 1) % 9);
            }
            Check.fails("undo of none of " + changes, Check.STATE, desk::undo);
        }
    }

    /** "Undoes the latest change that has not been undone." */
    private static void undoAndAnew() {
        StackDesk desk = new StackDesk();
        for (int round = 0; round < 6; round++) {
            for (int i = 1; i <= 9; i++) {
                desk.setTurn(0, i);
            }
            Check.same("undo of 9", desk.undo(), 7);
            Check.same("length 8", desk.process(0, 5), 8);
            Check.same("undo of 8", desk.undo(), 6);
            Check.same("length 7", desk.process(0, 5), 7);
            desk.setTurn(0, 1);
            desk.setTurn(0, 2);
            desk.setTurn(0, 3);
            Check.same("undo of 3", desk.undo(), 7);
            Check.same("length 2", desk.process(0, 5), 2);
            Check.same("undo of 2", desk.undo(), 6);
            Check.same("undo of 1", desk.undo(), 5);
            Check.same("length 7 anew", desk.process(0, 5), 7);
            for (int left = 4; left >= 0; left--) {
                Check.same("undo", desk.undo(), left);
                Check.same("length", desk.process(0, 5), left + 2);
            }
            Check.fails("undo of nothing", Check.STATE, desk::undo);
        }
    }

    /** "but not the text buffer, the position of the error, the written text and what was saved". */
    private static void undoLeaves() {
        StackDesk desk = fresh();
        desk.put(1, 7);
        Check.load(desk, "desk 9;");
        desk.writeStacks();
        int length = desk.writeStacks();
        desk.save(1);
        Check.append(desk, "desk 4;");
        desk.undo();
        desk.undo();
        Check.same("the buffer", desk.append(0, 0, 0, 0, 0), 7);
        Check.same("the position", desk.errorPosition(), 5);
        Check.outside("the written text", length, desk::writtenByte);
        Check.same("what was saved ahead", desk.restore(0), 4);
        Check.same("what was saved then", desk.restore(1), 7);
        Check.same("numbers that were saved", desk.stack(1, 1), 2);
        Check.load(desk, "process q:;process r:;");
        Check.same("processes of the buffer", desk.count(1), 2);
        Check.same("slots of the buffer", desk.count(0), 4);
        // A save ahead of the first change is not undone, either.
        StackDesk first = new StackDesk();
        first.setTurn(0, 7);
        first.save(1);
        first.undo();
        Check.same("length behind undo", first.process(0, 5), 3);
        first.restore(1);
        Check.same("length that was saved", first.process(0, 5), 7);
    }

    /** "Refused calls return -10 minus the reason". */
    private static void refusals() {
        StackDesk desk = Check.desk("desk 2;process a:;process b:;process c:pop;stack 1 with a 4;stack 1 at 1 5;");
        Check.same("no room in a hand", desk.put(0, 0), -11);
        Check.same("no room on a slot", desk.put(1, 0), -11);
        Check.same("no stack", desk.hand(0, 1), -12);
        Check.same("a stack", desk.hand(1, 0), -13);
        Check.same("ready", desk.wake(1), -15);
        desk.run(3);
        Check.same("ended", desk.kill(1), -14);
        Check.same("faulty", desk.kill(2), -14);
        desk.kill(0);
        Check.same("killed", desk.kill(0), -14);
        desk.wake(0);
        Check.same("woken", desk.wake(0), -15);
        for (int room = 1; room <= 16; room++) {
            StackDesk full = Check.desk("desk 1;process a:;stack " + room + " at 0;");
            for (int i = 1; i <= room; i++) {
                Check.same("put into " + room, full.put(0, i), i);
            }
            Check.same("put into a full " + room, full.put(0, 0), -11);
            Check.same("numbers of a full " + room, full.stack(0, 1), room);
            Check.same("top of a full " + room, full.number(0, 0), room);
        }
    }

    /** "nor is a refusal" a change. */
    private static void refusalsChangeNothing() {
        StackDesk desk = fresh();
        desk.put(1, 3);
        String before = Check.state(desk);
        Check.same("put", desk.put(1, 4), -11);
        Check.same("hand of an empty slot", desk.hand(0, 1), -12);
        Check.same("hand to one that holds", desk.hand(1, 0), -13);
        Check.same("kill", desk.kill(2), -14);
        Check.same("kill", desk.kill(3), -14);
        Check.same("wake", desk.wake(0), -15);
        Check.same("the desk behind refusals", Check.state(desk), before);
        Check.same("undo behind refusals", desk.undo(), 3);
        Check.same("the put is undone", desk.stack(1, 1), 1);
    }

    /** "the lowest one is told": 2 there is no stack, ahead of 3 there is a stack. */
    private static void lowestRefusal() {
        StackDesk desk = Check.desk("desk 2;process a:;process b:;stack 1 with a;stack 1 at 1;");
        Check.same("an empty slot and a full hand", desk.hand(0, 0), -12);
        Check.same("an empty slot and an empty hand", desk.hand(0, 1), -12);
        Check.same("a full slot and a full hand", desk.hand(1, 0), -13);
        Check.same("a full slot and an empty hand", desk.hand(1, 1), 1);
    }

    /** Questions, append, save, writeStacks and a text with an error are no changes. */
    private static void otherCallsAreNoChanges() {
        StackDesk desk = fresh();
        String before = Check.state(desk);
        for (int i = 0; i < 10; i++) {
            desk.append(0x20202020, 0, 0, 0, 0);
            Check.same("a text with an error", desk.load(), -2);
            desk.save(1);
            desk.writeStacks();
            desk.turnsLeft();
            desk.wouldSay(0, i);
            desk.wouldFail(1);
            desk.fairest();
            desk.bestSlot(1);
            desk.whyStuck(1);
            desk.helpers(1);
            desk.stuck();
            desk.unfair();
            desk.hungriest();
            desk.waitShare();
            desk.fullness();
        }
        Check.same("the desk behind questions", Check.state(desk), before);
        Check.same("undo behind questions", desk.undo(), 2);
    }

    /** "Returns the slots that it may use then, as a set of bits." */
    private static void allow() {
        StackDesk desk = Check.desk("desk 4;process a:;process b may 0 1 2 3:;");
        for (int set = 0; set < 64; set++) {
            int slot = (set * 7 + set / 4) % 4;
            boolean on = set % 3 != 0;
            int before = desk.process(0, 6);
            int due = on ? before | 1 << slot : before & ~(1 << slot);
            Check.same("allow(0, " + slot + ", " + on + ")", desk.allow(0, slot, on), due);
            Check.same("slots of a", desk.process(0, 6), due);
            Check.same("slots of b", desk.process(1, 6), 15);
        }
        Check.same("b without 3", desk.allow(1, 3, false), 7);
        Check.same("b without 3 once more", desk.allow(1, 3, false), 7);
        StackDesk one = new StackDesk();
        Check.outside("slot of one", 1, slot -> one.allow(0, slot, true));
        // It counts from now on, also for one that holds or waits.
        StackDesk waits = Check.desk("desk 1;process a may 0:take 0;process b:jump 0;");
        waits.run(2);
        Check.same("a waits", waits.whyStuck(0), 2);
        waits.allow(0, 0, false);
        waits.run(1);
        Check.stands("a may not any more", waits, 0, 2, 2, 0);
    }

    /** "steps: 1 to 9"; "Returns the length before." */
    private static void setTurn() {
        StackDesk desk = Check.desk("desk 1;process a:jump 0;process b turn 9:jump 0;");
        int before = 3;
        for (int steps = 1; steps <= 9; steps++) {
            Check.same("setTurn(0, " + steps + ")", desk.setTurn(0, steps), before);
            Check.same("length of a", desk.process(0, 5), steps);
            Check.same("length of b", desk.process(1, 5), 9);
            before = steps;
        }
        Check.outOfRange("setTurn", 1, 9, steps -> desk.setTurn(0, steps));
        Check.same("length behind exceptions", desk.process(0, 5), 9);
        desk.kill(1);
        Check.same("setTurn of an ended one", desk.setTurn(1, 1), 9);
    }

    /** "value: -999999 to 999999"; "Returns how many numbers are on it then". */
    private static void put() {
        StackDesk desk = Check.desk("desk 1;process a:;stack 16 with a;stack 3 at 0 1;");
        Check.outOfRange("put", -999999, 999999, value -> desk.put(0, value));
        Check.same("numbers", desk.stack(0, 1), 2);
        Check.same("the top", desk.number(0, 0), 999999);
        Check.same("the lower one", desk.number(0, 1), -999999);
        Check.same("put on a slot", desk.put(1, 0), 2);
        Check.same("put on a slot", desk.put(1, -1), 3);
        Check.same("the stacks", Check.written(desk), "-999999,999999@a 1,0,-1#0");
        desk.run(1);
        Check.same("put when it is ended", desk.put(0, 4), 3);
        Check.same("put is no step", desk.count(7), 1);
        Check.same("put is not in the trace", desk.count(8), 1);
    }

    /** "Hands the stack on a slot to a process, whatever it may use", and whatever its state is. */
    private static void hand() {
        for (int slot = 0; slot < 4; slot++) {
            StackDesk desk = Check.desk("desk 4;process a:;process b:pop;process c:jump 0;stack 1 at 3;stack 1 at 2;"
                    + "stack 1 at 1;stack 1 at 0;");
            desk.run(2);
            Check.same("hand(" + slot + ", c)", desk.hand(slot, 2), 3 - slot);
            Check.same("the slot", desk.slot(slot), StackDesk.NONE);
            Check.same("the hand", desk.process(2, 3), 3 - slot);
            Check.same("the holder", desk.stack(3 - slot, 2), 2);
            Check.same("the slot of the stack", desk.stack(3 - slot, 3), StackDesk.NONE);
            Check.same("moves", desk.stack(3 - slot, 4), 0);
            int other = (slot + 1) % 4;
            Check.same("hand to an ended one", desk.hand(other, 0), 3 - other);
            other = (slot + 2) % 4;
            Check.same("hand to a faulty one", desk.hand(other, 1), 3 - other);
            Check.stands("the faulty one stays so", desk, 1, 2, 1, 0);
            other = (slot + 3) % 4;
            Check.same("the last slot", desk.slot(other), 3 - other);
            Check.same("hand is no step", desk.count(7), 2);
            Check.same("hand is not in the trace", desk.count(8), 2);
        }
    }

    /** "a stack in its hand comes on the lowest empty slot (whatever the process may use)". */
    private static void kill() {
        for (int filled = 0; filled < 16; filled++) {
            StringBuilder text = new StringBuilder("desk 4;process a may 3:jump 1 jump 0;process b:jump 0;stack 1 with a;");
            int due = StackDesk.NONE;
            for (int slot = 3; slot >= 0; slot--) {
                if ((filled >> slot & 1) != 0) {
                    text.append("stack 1 at ").append(slot).append(';');
                } else {
                    due = slot;
                }
            }
            StackDesk desk = Check.desk(text.toString());
            desk.run(1);
            Check.same("kill with " + filled, desk.kill(0), due);
            Check.stands("the killed one", desk, 0, 1, 0, 1);
            Check.same("the hand", desk.process(0, 3), due == StackDesk.NONE ? 0 : StackDesk.NONE);
            Check.same("the holder", desk.stack(0, 2), due == StackDesk.NONE ? 0 : StackDesk.NONE);
            Check.same("the slot of the stack", desk.stack(0, 3), due);
            Check.same("moves", desk.stack(0, 4), 0);
            if (due != StackDesk.NONE) {
                Check.same("the slot", desk.slot(due), 0);
            }
            Check.same("turns", desk.process(0, 7), 1);
            Check.same("steps", desk.process(0, 8), 3);
            Check.same("kill is not in the trace", desk.count(8), 3);
            Check.same("next", desk.count(9), 1);
        }
    }

    /** "Returns the slot; NONE if no stack came on a slot". */
    private static void killWithoutSlot() {
        StackDesk desk = Check.desk("desk 1;process a:jump 0;process b:jump 0;process c:jump 0;stack 1 with b;stack 1 with c;");
        Check.same("kill with an empty hand", desk.kill(0), StackDesk.NONE);
        Check.same("the slot stays empty", desk.slot(0), StackDesk.NONE);
        Check.same("kill of b", desk.kill(1), 0);
        Check.same("kill of c", desk.kill(2), StackDesk.NONE);
        Check.same("c holds it", desk.process(2, 3), 1);
        Check.same("b's stack stays on 0", desk.slot(0), 0);
        desk.wake(2);
        desk.hand(0, 0);
        Check.same("kill of c when 0 is empty", desk.kill(2), 0);
        Check.same("c's stack is on 0", desk.slot(0), 1);
    }

    /** "it is ready, its place is 0, its fault 0; its counts and what it holds and said stay". */
    private static void wake() {
        StackDesk desk = Check.desk("desk 1;process a turn 4 may 0:dup say jump 3 mul;process b may 0:take 0;"
                + "process c turn 1:jump 0;stack 4 with a 3;");
        desk.run(3);
        Check.stands("a", desk, 0, 2, 4, 3);
        Check.same("wake(0)", desk.wake(0), 2);
        int[] due = {0, 0, 0, 0, 4, 4, 1, 1, 4, 0, 1};
        for (int what = 0; what <= 10; what++) {
            Check.same("process(0, " + what + ")", desk.process(0, what), due[what]);
        }
        Check.same("what it said", desk.said(0, 0), 3);
        Check.same("the trace", desk.count(8), 6);
        Check.same("turns so far", desk.count(3), 3);
        Check.same("next is a", desk.count(9), 0);
        Check.same("wake of a ready one", desk.wake(0), -15);
        desk.kill(1);
        Check.same("wake of a killed one", desk.wake(1), 1);
        Check.same("waits of b stay", desk.process(1, 9), 1);
        desk.run(1);
        Check.same("a said once more", desk.process(0, 10), 2);
        Check.stands("a once more", desk, 0, 2, 4, 3);
        Check.same("turns of a", desk.process(0, 7), 2);
        Check.same("steps of a", desk.process(0, 8), 8);
        StackDesk end = new StackDesk();
        for (int i = 1; i <= 5; i++) {
            end.run(1);
            Check.same("state of the end", end.process(0, 0), 1);
            Check.same("wake of the end", end.wake(0), 1);
            Check.stands("behind wake", end, 0, 0, 0, 0);
            Check.same("steps", end.process(0, 8), i);
        }
    }

    /** "Saves everything that undo brings back, but not what can be undone, in place of what was saved there." */
    private static void save() {
        StackDesk desk = Check.desk("desk 1;process a turn 1:dup say;process b turn 1 may 0:take 0;stack 4 with a 6;");
        String[] states = new String[6];
        desk.save(0);
        for (int i = 0; i < 6; i++) {
            states[i] = Check.state(desk);
            desk.save(i % 2);
            if (i > 0) {
                desk.restore((i + 1) % 2);
                Check.same("the desk of " + (i - 1), Check.state(desk), states[i - 1]);
                desk.restore(i % 2);
                Check.same("the desk of " + i, Check.state(desk), states[i]);
            }
            desk.run(1);
        }
        // Restored is what was saved there last; a change of the desk does not change it.
        desk.restore(0);
        Check.same("the desk of 4", Check.state(desk), states[4]);
        desk.put(0, 1);
        desk.allow(0, 0, true);
        desk.kill(0);
        desk.restore(0);
        Check.same("the desk of 4 once more", Check.state(desk), states[4]);
        desk.restore(1);
        Check.same("the desk of 5", Check.state(desk), states[5]);
    }

    /** "which stays saved"; "Returns the number of turns so far then"; what can be undone is not brought back. */
    private static void restore() {
        StackDesk desk = Check.desk("desk 1;process a turn 1:jump 0;");
        desk.run(5);
        desk.save(0);
        for (int i = 0; i < 10; i++) {
            desk.run(1 + i);
            Check.same("restore " + i, desk.restore(0), 5);
            Check.same("turns", desk.count(3), 5);
        }
        for (int left = 7; left >= 0; left--) {
            Check.same("undo behind restores", desk.undo(), left);
        }
        // 8 changes undone: the runs of 10, 9, 8 and 7 turns and their restores.
        Check.same("turns behind undo", desk.count(3), 5);
        Check.fails("what was saved brings no undo", Check.STATE, desk::undo);
        Check.same("restore behind undo", desk.restore(0), 5);
        Check.same("a restore is a change", desk.undo(), 0);
        StackDesk early = new StackDesk();
        early.save(1);
        early.run(1);
        Check.same("restore of a new object", early.restore(1), 0);
        Check.same("the run can still be undone", early.undo(), 1);
        Check.same("turns", early.count(3), 1);
        Check.same("undo of the run", early.undo(), 0);
        Check.fails("restore(0)", Check.STATE, () -> early.restore(0));
    }

    /** What is saved is a whole desk: slots, programs, names and stacks of another text come back. */
    private static void restoreOfOtherDesk() {
        StackDesk desk = fresh();
        desk.run(2);
        String before = Check.state(desk);
        String stacks = Check.written(desk);
        desk.save(1);
        Check.load(desk, "desk 1;process zz:;stack 1 with zz;");
        Check.same("processes of the other one", desk.count(1), 1);
        Check.same("restore", desk.restore(1), 9);
        Check.same("the desk of before", Check.state(desk), before);
        Check.same("its stacks and names", Check.written(desk), stacks);
        desk.undo();
        Check.same("the other one", Check.written(desk), "@zz");
        desk.undo();
        Check.same("the desk of before", Check.state(desk), before);
    }
}
