/** Promises 25 to 34: changes, undo, save and restore. */
public final class ChangeTest {
    public static void main(String[] args) {
        runs();
        allows();
        turnLengths();
        puts();
        hands();
        kills();
        wakes();
        undoes();
        undoOfEachChange();
        noChanges();
        saves();
        restores();
        Check.end();
    }

    private static void runs() {
        StackDesk desk = Check.desk("desk 1;process a:jump 0;process b turn 1:jump 1 halt;");
        Check.same("run(1)", desk.run(1), 1);
        Check.same("run(300)", desk.run(300), 300);
        Check.same("turns", desk.count(3), 301);
        desk.kill(0);
        Check.same("run of an ended desk", desk.run(300), 0);
        Check.fails("run(0)", Check.ARGUMENT, () -> desk.run(0));
        Check.fails("run(-1)", Check.ARGUMENT, () -> desk.run(-1));
        Check.fails("run(301)", Check.ARGUMENT, () -> desk.run(301));
        StackDesk one = new StackDesk();
        Check.same("run(3) of a new object", one.run(3), 1);
        Check.same("undo of run", one.undo(), 0);
        Check.same("turns behind undo", one.count(3), 0);
    }

    private static void allows() {
        StackDesk desk = Check.desk("desk 3;process a may 1:take 2;process b:;stack 1 at 2;");
        Check.same("allow 2", desk.allow(0, 2, true), 6);
        Check.same("allow 2 once more", desk.allow(0, 2, true), 6);
        Check.same("not 1", desk.allow(0, 1, false), 4);
        Check.same("not 0", desk.allow(0, 0, false), 4);
        Check.same("slots of a", desk.process(0, 6), 4);
        Check.same("slots of b", desk.process(1, 6), 0);
        desk.run(1);
        Check.same("a took", desk.process(0, 3), 0);
        Check.fails("allow(2, 0)", Check.INDEX, () -> desk.allow(2, 0, true));
        Check.fails("allow(-1, 0)", Check.INDEX, () -> desk.allow(-1, 0, true));
        Check.fails("allow(0, 3)", Check.INDEX, () -> desk.allow(0, 3, true));
        Check.fails("allow(0, -1)", Check.INDEX, () -> desk.allow(0, -1, false));
        Check.same("changes of allow", desk.undo(), 5);
    }

    private static void turnLengths() {
        StackDesk desk = Check.desk("desk 1;process a turn 5:jump 0;process b:;");
        Check.same("setTurn(0, 9)", desk.setTurn(0, 9), 5);
        Check.same("setTurn(0, 1)", desk.setTurn(0, 1), 9);
        Check.same("setTurn(1, 2)", desk.setTurn(1, 2), 3);
        desk.run(1);
        Check.same("steps of a turn of 1", desk.process(0, 8), 1);
        Check.same("length of a", desk.process(0, 5), 1);
        Check.fails("setTurn(0, 0)", Check.ARGUMENT, () -> desk.setTurn(0, 0));
        Check.fails("setTurn(0, 10)", Check.ARGUMENT, () -> desk.setTurn(0, 10));
        Check.fails("setTurn(2, 0)", Check.INDEX, () -> desk.setTurn(2, 0));
        Check.fails("setTurn(-1, 1)", Check.INDEX, () -> desk.setTurn(-1, 1));
        Check.same("changes of setTurn", desk.undo(), 4);
    }

    private static void puts() {
        StackDesk desk = Check.desk("desk 1;process a:;stack 2 with a 5;stack 1 at 0;");
        Check.same("put(0)", desk.put(0, -999999), 2);
        Check.same("put(0) of a full one", desk.put(0, 1), -11);
        Check.same("put(1)", desk.put(1, 999999), 1);
        Check.same("put(1) of a full one", desk.put(1, 0), -11);
        Check.same("stacks", Check.written(desk), "5,-999999@a 999999#0");
        Check.same("moves", desk.stack(0, 4), 0);
        Check.fails("put(0, 1000000)", Check.ARGUMENT, () -> desk.put(0, 1000000));
        Check.fails("put(0, -1000000)", Check.ARGUMENT, () -> desk.put(0, -1000000));
        Check.fails("put(2, 1000000)", Check.INDEX, () -> desk.put(2, 1000000));
        Check.fails("put(-1, 0)", Check.INDEX, () -> desk.put(-1, 0));
        Check.same("refusals are no changes", desk.undo(), 2);
    }

    private static void hands() {
        StackDesk desk = Check.desk("desk 3;process a:;process b:;stack 1 at 1 7;stack 1 with b;stack 1 at 2;");
        Check.same("hand of an empty slot", desk.hand(0, 0), -12);
        Check.same("hand of an empty slot to one that holds", desk.hand(0, 1), -12);
        Check.same("hand to one that holds", desk.hand(1, 1), -13);
        Check.same("stacks of refusals", Check.written(desk), "7#1 @b #2");
        Check.same("hand", desk.hand(1, 0), 0);
        Check.same("hand: stacks", Check.written(desk), "7@a @b #2");
        Check.same("hand: the hand", desk.process(0, 3), 0);
        Check.same("hand: the slot", desk.slot(1), StackDesk.NONE);
        Check.same("hand: no moves by steps", desk.stack(0, 4), 0);
        Check.same("hand of the slot once more", desk.hand(1, 0), -12);
        Check.same("hand to one that holds then", desk.hand(2, 0), -13);
        Check.fails("hand(3, 0)", Check.INDEX, () -> desk.hand(3, 0));
        Check.fails("hand(-1, 0)", Check.INDEX, () -> desk.hand(-1, 0));
        Check.fails("hand(0, 2)", Check.INDEX, () -> desk.hand(0, 2));
        Check.fails("hand(0, -1)", Check.INDEX, () -> desk.hand(0, -1));
        Check.same("changes of hand", desk.undo(), 1);
        desk.run(2);
        Check.same("hand to an ended one", desk.hand(2, 0), 2);
    }

    private static void kills() {
        StackDesk desk = Check.desk("desk 3;process a turn 1:jump 1 jump 2;process b may 2:;process c:;process d:pop;"
                + "stack 1 at 0;stack 1 with a 3;stack 1 with b 4;stack 1 with c 5;");
        desk.run(1);
        Check.same("kill(0)", desk.kill(0), 1);
        Check.stands("kill(0)", desk, 0, 1, 0, 1);
        Check.same("kill: the hand", desk.process(0, 3), StackDesk.NONE);
        Check.same("kill: the slot", desk.slot(1), 1);
        Check.same("kill: no moves by steps", desk.stack(1, 4), 0);
        Check.same("kill(0) once more", desk.kill(0), -14);
        Check.same("kill(1)", desk.kill(1), 2);
        Check.same("kill(2) without an empty slot", desk.kill(2), StackDesk.NONE);
        Check.same("the hand keeps it", desk.process(2, 3), 3);
        Check.same("stacks", Check.written(desk), "#0 3#1 4#2 5@c");
        desk.run(1);
        Check.same("kill of a faulty one", desk.kill(3), -14);
        Check.stands("a faulty one", desk, 3, 2, 1, 0);
        Check.fails("kill(4)", Check.INDEX, () -> desk.kill(4));
        Check.fails("kill(-1)", Check.INDEX, () -> desk.kill(-1));
        Check.same("changes of kill", desk.undo(), 5);
        StackDesk empty = Check.desk("desk 3;process a:;stack 1 with a;stack 1 at 1;");
        Check.same("kill with slot 0 empty", empty.kill(0), 0);
        Check.same("stacks with slot 0 filled", Check.written(empty), "#0 #1");
        StackDesk one = Check.desk("desk 1;process a:;");
        Check.same("kill without a stack", one.kill(0), StackDesk.NONE);
        Check.same("state of the killed", one.process(0, 0), 1);
        Check.same("kill is no step", one.count(7), 0);
        Check.same("kill is not in the trace", one.count(8), 0);
    }

    private static void wakes() {
        StackDesk desk = Check.desk("desk 1;process a turn 9:say pop;process b:jump 1;process c:;"
                + "stack 2 with a 1;");
        Check.same("wake of a ready one", desk.wake(0), -15);
        desk.run(2);
        Check.stands("a", desk, 0, 2, 4, 1);
        Check.same("wake(0)", desk.wake(0), 2);
        Check.stands("a woken", desk, 0, 0, 0, 0);
        Check.same("its steps stay", desk.process(0, 8), 2);
        Check.same("its turns stay", desk.process(0, 7), 1);
        Check.same("its stack stays", desk.process(0, 3), 0);
        Check.same("what it said stays", desk.said(0, 0), 1);
        Check.same("how much it said stays", desk.process(0, 10), 1);
        Check.same("wake(0) once more", desk.wake(0), -15);
        Check.same("wake(1)", desk.wake(1), 1);
        Check.stands("b woken", desk, 1, 0, 0, 0);
        Check.same("turn behind wake", desk.count(9), 2);
        Check.fails("wake(3)", Check.INDEX, () -> desk.wake(3));
        Check.fails("wake(-1)", Check.INDEX, () -> desk.wake(-1));
        Check.same("changes of wake", desk.undo(), 3);
        Check.stands("b behind undo", desk, 1, 1, 0, 1);
    }

    /** The latest 8 changes can be undone, one after the other. */
    private static void undoes() {
        StackDesk desk = Check.desk("desk 1;process a:;stack 16 with a;");
        String[] states = new String[13];
        for (int i = 0; i < 13; i++) {
            states[i] = Check.state(desk);
            if (i < 12) {
                desk.put(0, i);
            }
        }
        for (int i = 0; i < 8; i++) {
            Check.same("undo " + i, desk.undo(), 7 - i);
            Check.same("the desk behind undo " + i, Check.state(desk), states[11 - i]);
        }
        Check.fails("a 9th undo", Check.STATE, () -> desk.undo());
        Check.same("the desk behind a 9th undo", Check.state(desk), states[4]);
        desk.put(0, 100);
        desk.put(0, 101);
        Check.same("undo behind new changes", desk.undo(), 1);
        desk.put(0, 102);
        Check.same("undo behind another one", desk.undo(), 1);
        Check.same("undo of the first new one", desk.undo(), 0);
        Check.same("the desk then", Check.state(desk), states[4]);
        Check.fails("no undo is left", Check.STATE, () -> desk.undo());
    }

    private static void undone(StackDesk desk, String what, String before) {
        desk.undo();
        Check.same("the desk behind undo of " + what, Check.state(desk), before);
    }

    private static void undoOfEachChange() {
        StackDesk desk = Check.desk("desk 2;process a turn 9 may 0:push 1 dup say lay 0 take 0 jump 0;"
                + "process b may 0:take 0;process c:pop;stack 9 with a;stack 3 at 1 8;");
        desk.run(5);
        desk.save(0);
        desk.run(2);
        String before = Check.state(desk);
        desk.run(300);
        undone(desk, "run", before);
        desk.allow(1, 1, true);
        undone(desk, "allow", before);
        desk.setTurn(0, 1);
        undone(desk, "setTurn", before);
        desk.put(1, 4);
        undone(desk, "put", before);
        desk.hand(1, 2);
        undone(desk, "hand", before);
        desk.kill(1);
        undone(desk, "kill", before);
        desk.wake(2);
        undone(desk, "wake", before);
        desk.restore(0);
        undone(desk, "restore", before);
        Check.load(desk, "desk 4;process z may 3:say;stack 2 with z 9;stack 1 at 3;");
        desk.run(1);
        desk.undo();
        undone(desk, "load", before);
        Check.same("the changes that are left", desk.undo(), 2);
        buffer();
    }

    /** The text buffer stays as it is when something is undone. */
    private static void buffer() {
        StackDesk desk = Check.desk("desk 2;process a:;");
        Check.append(desk, "desk 3;");
        desk.undo();
        Check.append(desk, "process q:;");
        Check.same("the buffer stays", desk.load(), 1);
        Check.same("slots of the text that stayed", desk.count(0), 3);
    }

    private static void noChanges() {
        StackDesk desk = Check.desk("desk 1;process a:;stack 1 with a 1;");
        desk.put(0, 1);
        desk.hand(0, 0);
        desk.wake(0);
        desk.save(0);
        desk.turnsLeft();
        desk.writeStacks();
        Check.load(desk, "desk");
        Check.fails("run(0)", Check.ARGUMENT, () -> desk.run(0));
        Check.fails("setTurn(0, 0)", Check.ARGUMENT, () -> desk.setTurn(0, 0));
        Check.fails("restore(1)", Check.STATE, () -> desk.restore(1));
        Check.same("only load was a change", desk.undo(), 0);
        Check.same("slots behind undo", desk.count(2), 0);
        // Changes that alter nothing are changes.
        StackDesk same = Check.desk("desk 1;process a may 0:take 0;");
        same.run(1);
        same.allow(0, 0, true);
        same.setTurn(0, 3);
        Check.same("changes without another state", same.undo(), 3);
    }

    private static void saves() {
        StackDesk desk = Check.desk("desk 1;process a turn 1:jump 0;stack 3 with a;");
        desk.run(4);
        desk.save(0);
        String four = Check.state(desk);
        desk.run(3);
        desk.save(1);
        String seven = Check.state(desk);
        desk.put(0, 5);
        Check.same("restore(0)", desk.restore(0), 4);
        Check.same("the desk of 0", Check.state(desk), four);
        Check.same("restore(1)", desk.restore(1), 7);
        Check.same("the desk of 1", Check.state(desk), seven);
        desk.run(2);
        desk.save(0);
        String nine = Check.state(desk);
        desk.kill(0);
        Check.same("restore(0) of the later one", desk.restore(0), 9);
        Check.same("the desk of 0 then", Check.state(desk), nine);
        Check.same("restore(0) once more", desk.restore(0), 9);
        Check.fails("save(2)", Check.INDEX, () -> desk.save(2));
        Check.fails("save(-1)", Check.INDEX, () -> desk.save(-1));
    }

    private static void restores() {
        StackDesk desk = Check.desk("desk 1;process a turn 1:jump 0;");
        Check.fails("restore(0) of nothing", Check.STATE, () -> desk.restore(0));
        Check.fails("restore(2)", Check.INDEX, () -> desk.restore(2));
        Check.fails("restore(-1)", Check.INDEX, () -> desk.restore(-1));
        desk.save(1);
        Check.fails("restore(0) of nothing yet", Check.STATE, () -> desk.restore(0));
        desk.run(5);
        // What can be undone stays as it is: load, run, restore.
        Check.same("restore(1)", desk.restore(1), 0);
        Check.same("undo of restore", desk.undo(), 2);
        Check.same("turns behind undo", desk.count(3), 5);
        Check.same("undo of run", desk.undo(), 1);
        Check.same("undo of load", desk.undo(), 0);
        Check.same("what was saved stays", desk.restore(1), 0);
        Check.same("the restored process", desk.process(0, 4), 1);
        Check.load(desk, "desk 3;process b:;process c:;");
        Check.same("restore behind load", desk.restore(1), 0);
        Check.same("the processes of the restored one", desk.count(1), 1);
    }
}
