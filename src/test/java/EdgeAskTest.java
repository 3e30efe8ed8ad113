/** The edges of term 6 (exceptions) and of promises 1 (a new object) and 5 (count) to 19 (fullness). */
public final class EdgeAskTest {
    private static final String EIGHT = "desk 4;process a may 3:take 3;process b:jump 0;process c:jump 0;"
            + "process d:jump 0;process e:jump 0;process f:jump 0;process g:jump 0;process h may 3:take 3;";

    public static void main(String[] args) {
        newObject();
        countsOfStates();
        countsOfTrace();
        nextRound();
        stuckDesks();
        numbersThatDoNotExist();
        whatThatDoesNotExist();
        firstException();
        exceptionsChangeNothing();
        slotsOfProcess();
        fullPrograms();
        depths();
        lastThings();
        keptSayings();
        keptTrace();
        traceOfAll();
        stuckSets();
        stuckByState();
        helpers();
        unfair();
        hungriest();
        waitShare();
        fullness();
        Check.end();
    }

    /** "Creates a desk as by the text .., with an empty text buffer and nothing saved." */
    private static void newObject() {
        StackDesk desk = new StackDesk();
        StackDesk told = Check.desk("desk 1;process a:;");
        Check.same("a new object", Check.state(desk), Check.state(told));
        Check.same("bytes of a new object", desk.append(0, 0, 0, 0, 0), 0);
        Check.fails("undo", Check.STATE, desk::undo);
        Check.same("stuck", desk.stuck(), 0);
        Check.same("helpers", desk.helpers(0), 0);
        Check.same("unfair", desk.unfair(), 0);
        Check.same("hungriest", desk.hungriest(), 0);
        Check.sameDouble("waitShare", desk.waitShare(), 0.0);
        Check.sameDouble("fullness", desk.fullness(), 0.0f);
        Check.same("wouldSay", desk.wouldSay(0, 300), StackDesk.NOTHING);
        Check.same("wouldFail", desk.wouldFail(0), 0);
        Check.same("bestSlot", desk.bestSlot(0), StackDesk.NONE);
        Check.same("allow", desk.allow(0, 0, true), 1);
        Check.same("hand", desk.hand(0, 0), -12);
        Check.same("wake", desk.wake(0), -15);
        Check.same("load of its text", Check.load(desk, "desk 1;process a:;"), 1);
        Check.same("its text", Check.state(desk), Check.state(told));
        Check.same("two objects", Check.state(new StackDesk()), Check.state(told));
    }

    /** One is ready, two are ended, three are faulty. */
    private static void countsOfStates() {
        StackDesk desk = Check.desk("desk 2;process a:pop;process b:pop;process c:halt;process d:jump 0;process e:;"
                + "process f:lay 0;stack 1 at 0;");
        Check.same("ready at first", desk.count(4), 6);
        desk.run(6);
        int[] due = {2, 6, 1, 6, 1, 2, 3, 8, 8, 3, 0};
        for (int what = 0; what <= 10; what++) {
            Check.same("count(" + what + ")", desk.count(what), due[what]);
        }
        desk.kill(3);
        desk.wake(0);
        desk.wake(1);
        due = new int[] {2, 6, 1, 6, 2, 3, 1, 8, 8, 0, 0};
        for (int what = 0; what <= 10; what++) {
            Check.same("count(" + what + ") then", desk.count(what), due[what]);
        }
    }

    /** A wait is in the trace, but no step; the trace has at most 40. */
    private static void countsOfTrace() {
        StackDesk desk = Check.desk("desk 1;process a turn 1 may 0:take 0;process b turn 1:jump 0;");
        for (int turn = 0; turn < 45; turn++) {
            Check.same("turns", desk.count(3), turn);
            Check.same("steps of " + turn + " turns", desk.count(7), turn / 2);
            Check.same("waits of " + turn + " turns", desk.process(0, 9), (turn + 1) / 2);
            Check.same("trace of " + turn + " turns", desk.count(8), Math.min(turn, 40));
            desk.run(1);
        }
    }

    /** Behind the last process comes the first one; those that are not ready are left out. */
    private static void nextRound() {
        StackDesk desk = Check.desk(EIGHT.replace("may 3:take 3", ":jump 0"));
        for (int turn = 0; turn < 20; turn++) {
            Check.same("next of turn " + turn, desk.count(9), turn % 8);
            desk.run(1);
            Check.same("process of turn " + turn, desk.trace(0, 1), turn % 8);
        }
        desk.kill(4);
        Check.same("next without 4", desk.count(9), 5);
        desk.kill(5);
        desk.kill(6);
        desk.kill(7);
        Check.same("next without 4 to 7", desk.count(9), 0);
        desk.kill(0);
        Check.same("next without 4 to 0", desk.count(9), 1);
        desk.kill(1);
        desk.kill(2);
        Check.same("next is the latest one", desk.count(9), 3);
        desk.run(1);
        Check.same("next is the only one", desk.count(9), 3);
        desk.kill(3);
        Check.same("next of none", desk.count(9), StackDesk.NONE);
        desk.wake(3);
        Check.same("next is the woken one", desk.count(9), 3);
        desk.wake(4);
        Check.same("next is behind the latest one", desk.count(9), 4);
        desk.undo();
        Check.same("next behind undo", desk.count(9), 3);
    }

    /** "the desk is stuck if some process is ready and all that are ready are stuck". */
    private static void stuckDesks() {
        StackDesk desk = Check.desk("desk 2;process a may 0:take 0;process b may 1:lay 1;process c:pop;process d:;"
                + "stack 1 with b;stack 1 at 1;");
        Check.same("stuck at first", desk.count(10), 0);
        desk.kill(2);
        Check.same("d is not stuck", desk.count(10), 0);
        desk.kill(3);
        Check.same("a and b are stuck", desk.count(10), 1);
        Check.same("next of a stuck desk", desk.count(9), 0);
        desk.kill(0);
        Check.same("b is stuck", desk.count(10), 1);
        desk.kill(1);
        Check.same("none is ready", desk.count(10), 0);
        desk.wake(0);
        // b's stack came on the slot 0 when b was killed.
        Check.same("a woken finds a stack", desk.count(10), 0);
        desk.allow(0, 0, false);
        Check.same("without permission it is not stuck", desk.count(10), 0);
        Check.same("a fault is not stuck", Check.desk("desk 1;process a:take 0;").count(10), 0);
    }

    /** "An IndexOutOfBoundsException is thrown if a process, stack, slot or other thing .. does not exist." */
    private static void numbersThatDoNotExist() {
        String[] texts = {"desk 1;process a:pop;", "desk 2;process a:pop;process b:pop;stack 1 at 1;",
            "desk 3;process a:pop;process b:pop;process c:pop;stack 2 at 0;stack 2 with c;",
            EIGHT.replace("take 3", "pop") + "stack 1 at 0;stack 1 at 1;stack 1 at 2;stack 1 at 3;stack 1 with a;"
                    + "stack 1 with b;stack 1 with c;stack 1 with d;stack 1 with e;stack 1 with f;stack 1 with g;"
                    + "stack 1 with h;"};
        int[][] sizes = {{1, 1, 0}, {2, 2, 1}, {3, 3, 2}, {4, 8, 12}};
        for (int i = 0; i < texts.length; i++) {
            StackDesk desk = Check.desk(texts[i]);
            bounds(desk, sizes[i][0], sizes[i][1], sizes[i][2]);
            Check.load(desk, texts[0]);
            bounds(desk, 1, 1, 0);
        }
    }

    private static void bounds(StackDesk desk, int slots, int processes, int stacks) {
        String before = Check.state(desk);
        Check.outside("process", processes, k -> desk.process(k, 0));
        Check.outside("command of process", processes, k -> desk.command(k, 0, 0));
        Check.outside("said", processes, k -> desk.said(k, 0));
        Check.outside("whyStuck", processes, desk::whyStuck);
        Check.outside("helpers", processes, desk::helpers);
        Check.outside("wouldSay", processes, k -> desk.wouldSay(k, 1));
        Check.outside("wouldFail", processes, desk::wouldFail);
        Check.outside("bestSlot", processes, desk::bestSlot);
        Check.outside("stack", stacks, k -> desk.stack(k, 0));
        Check.outside("number", stacks, k -> desk.number(k, 0));
        Check.outside("slot", slots, desk::slot);
        Check.outside("trace of none", 0, k -> desk.trace(k, 0));
        Check.same("the desk behind questions", Check.state(desk), before);
        Check.outside("allow of process", processes, k -> desk.allow(k, 0, false));
        Check.outside("allow of slot", slots, k -> desk.allow(0, k, false));
        Check.outside("setTurn", processes, k -> desk.setTurn(k, 3));
        Check.outside("put", stacks, k -> desk.put(k, 0));
        Check.outside("hand of slot", slots, k -> desk.hand(k, 0));
        Check.outside("hand to process", processes, k -> desk.hand(0, k));
        Check.outside("kill", processes, desk::kill);
        Check.outside("wake", processes, desk::wake);
        Check.outside("save", 2, desk::save);
        Check.outside("restore", 2, desk::restore);
    }

    /** "Throws IllegalArgumentException for any other what". */
    private static void whatThatDoesNotExist() {
        StackDesk desk = Check.desk("desk 1;process a:push 4;stack 1 with a;");
        desk.run(1);
        Check.outOfRange("count", 0, 10, desk::count);
        Check.outOfRange("process", 0, 10, what -> desk.process(0, what));
        Check.outOfRange("stack", 0, 4, what -> desk.stack(0, what));
        Check.outOfRange("command", 0, 1, what -> desk.command(0, 0, what));
        Check.outOfRange("trace", 0, 3, what -> desk.trace(0, what));
        Check.outOfRange("trace of the oldest", 0, 3, what -> desk.trace(1, what));
    }

    /** "If several exceptions apply, the one named first is thrown." */
    private static void firstException() {
        StackDesk desk = Check.desk("desk 2;process a:pop;stack 1 at 0;");
        int[] wrong = {-1, 99, Integer.MIN_VALUE, Integer.MAX_VALUE};
        for (int what : wrong) {
            Check.fails("process(1, " + what + ")", Check.INDEX, () -> desk.process(1, what));
            Check.fails("stack(1, " + what + ")", Check.INDEX, () -> desk.stack(1, what));
            Check.fails("command(1, 0, " + what + ")", Check.INDEX, () -> desk.command(1, 0, what));
            Check.fails("command(0, 1, " + what + ")", Check.INDEX, () -> desk.command(0, 1, what));
            Check.fails("trace(0, " + what + ")", Check.INDEX, () -> desk.trace(0, what));
            Check.fails("wouldSay(1, " + what + ")", Check.INDEX, () -> desk.wouldSay(1, what));
            Check.fails("setTurn(1, " + what + ")", Check.INDEX, () -> desk.setTurn(1, what));
            Check.fails("put(1, " + what + ")", Check.INDEX, () -> desk.put(1, what));
            Check.fails("command(" + what + ", 0, 0)", Check.INDEX, () -> desk.command(what, 0, 0));
            Check.fails("command(0, " + what + ", 0)", Check.INDEX, () -> desk.command(0, what, 0));
        }
        desk.put(0, 5);
        Check.fails("put of a full stack", Check.ARGUMENT, () -> desk.put(0, 1000000));
        // An exception goes ahead of a refusal.
        Check.fails("hand of no slot to none", Check.INDEX, () -> desk.hand(2, 1));
        Check.fails("hand of an empty slot to none", Check.INDEX, () -> desk.hand(1, 1));
        desk.save(0);
        Check.fails("restore(2)", Check.INDEX, () -> desk.restore(2));
        Check.fails("restore(1)", Check.STATE, () -> desk.restore(1));
    }

    /** "A method that throws an exception changes nothing." */
    private static void exceptionsChangeNothing() {
        StackDesk desk = Check.desk("desk 2;process a may 0:push 1 dup say lay 0;process b may 0:take 0;"
                + "stack 4 with a 3;stack 1 at 1 8;");
        desk.run(2);
        Check.load(desk, "desk 2;process a:foo");
        desk.writeStacks();
        Check.append(desk, "desk 3;" + " ".repeat(580));
        String before = Check.state(desk);
        for (int wrong : new int[] {-1, 301, Integer.MAX_VALUE, Integer.MIN_VALUE}) {
            throwing(desk, wrong);
        }
        Check.fails("append", Check.STATE, () -> desk.append(0x3b3b3b3b, 0x3b3b3b3b, 0x3b3b3b3b, 0x3b3b3b3b, 0));
        Check.fails("restore(0)", Check.STATE, () -> desk.restore(0));
        Check.fails("restore(1)", Check.STATE, () -> desk.restore(1));
        Check.same("the desk behind exceptions", Check.state(desk), before);
        Check.same("the position behind exceptions", desk.errorPosition(), 17);
        Check.same("the written text behind exceptions", desk.writtenByte(0), '3');
        Check.outside("the length of the written text", 9, desk::writtenByte);
        Check.same("the buffer behind exceptions", desk.append(0, 0, 0, 0, 0), 587);
        Check.same("load of the rest", Check.load(desk, "process q:;"), 1);
        Check.same("slots of the buffer", desk.count(0), 3);
        Check.same("undo of that load", desk.undo(), 2);
        Check.same("the desk behind undo", Check.state(desk), before);
        Check.same("undo of run", desk.undo(), 1);
        Check.same("turns behind undo", desk.count(3), 0);
        Check.same("undo of load", desk.undo(), 0);
        before = Check.state(desk);
        Check.fails("undo of nothing", Check.STATE, desk::undo);
        Check.same("the desk behind undo of nothing", Check.state(desk), before);
        desk.allow(0, 0, true);
        Check.same("a change behind undo of nothing", desk.undo(), 0);
    }

    private static void throwing(StackDesk desk, int wrong) {
        Check.fails("count", Check.ARGUMENT, () -> desk.count(wrong));
        Check.fails("process", Check.INDEX, () -> desk.process(wrong, 0));
        Check.fails("process", Check.ARGUMENT, () -> desk.process(0, wrong));
        Check.fails("stack", Check.INDEX, () -> desk.stack(wrong, 0));
        Check.fails("number", Check.INDEX, () -> desk.number(wrong, 0));
        Check.fails("slot", Check.INDEX, () -> desk.slot(wrong));
        Check.fails("command", Check.INDEX, () -> desk.command(0, wrong, 0));
        Check.fails("said", Check.INDEX, () -> desk.said(wrong, 0));
        Check.fails("trace", Check.INDEX, () -> desk.trace(wrong, 0));
        Check.fails("whyStuck", Check.INDEX, () -> desk.whyStuck(wrong));
        Check.fails("helpers", Check.INDEX, () -> desk.helpers(wrong));
        Check.fails("wouldSay", Check.INDEX, () -> desk.wouldSay(wrong, 0));
        Check.fails("wouldSay", Check.ARGUMENT, () -> desk.wouldSay(0, wrong));
        Check.fails("wouldFail", Check.INDEX, () -> desk.wouldFail(wrong));
        Check.fails("bestSlot", Check.INDEX, () -> desk.bestSlot(wrong));
        Check.fails("run", Check.ARGUMENT, () -> desk.run(wrong));
        Check.fails("allow", Check.INDEX, () -> desk.allow(wrong, 0, true));
        Check.fails("allow", Check.INDEX, () -> desk.allow(0, wrong, true));
        Check.fails("setTurn", Check.INDEX, () -> desk.setTurn(wrong, 1));
        Check.fails("setTurn", Check.ARGUMENT, () -> desk.setTurn(0, wrong));
        Check.fails("put", Check.INDEX, () -> desk.put(wrong, 0));
        Check.fails("put", Check.ARGUMENT, () -> desk.put(0, wrong < 0 ? -1000000 : 1000000));
        Check.fails("hand", Check.INDEX, () -> desk.hand(wrong, 0));
        Check.fails("hand", Check.INDEX, () -> desk.hand(1, wrong));
        Check.fails("kill", Check.INDEX, () -> desk.kill(wrong));
        Check.fails("wake", Check.INDEX, () -> desk.wake(wrong));
        Check.fails("save", Check.INDEX, () -> desk.save(wrong));
        Check.fails("restore", Check.INDEX, () -> desk.restore(wrong));
        Check.fails("writtenByte", Check.INDEX, () -> desk.writtenByte(wrong));
    }

    /** "the slots that it may use (none without them)", as a set of bits. */
    private static void slotsOfProcess() {
        for (int set = 0; set < 16; set++) {
            StringBuilder text = new StringBuilder();
            for (int slot = 3; slot >= 0; slot--) {
                text.append((set >> slot & 1) != 0 ? " " + slot : "");
            }
            StackDesk desk = Check.desk("desk 4;process a" + (set == 0 ? "" : " may" + text) + ":;process b:;");
            Check.same("slots of a", desk.process(0, 6), set);
            Check.same("slots of b", desk.process(1, 6), 0);
        }
    }

    /** "a program of 0 to 24 commands, numbered from 0; a length of its turns (..; 3 without it)". */
    private static void fullPrograms() {
        StringBuilder text = new StringBuilder("desk 1;process a:");
        for (int i = 0; i < 24; i++) {
            text.append("push ").append(i % 2 == 0 ? i : -i).append(' ');
        }
        StackDesk desk = Check.desk(text + ";process b:;");
        Check.same("commands of a", desk.process(0, 4), 24);
        Check.same("commands of b", desk.process(1, 4), 0);
        Check.same("length of a", desk.process(0, 5), 3);
        Check.outside("command of a", 24, c -> Check.same("command " + c, desk.command(0, c, 0), 0));
        for (int i = 0; i < 24; i++) {
            Check.same("number of command " + i, desk.command(0, i, 1), i % 2 == 0 ? i : -i);
        }
        Check.outside("command of b", 0, c -> desk.command(1, c, 0));
    }

    /** "NOTHING if there is none so deep"; what went from the top is not there any more. */
    private static void depths() {
        StackDesk desk = Check.desk("desk 1;process a turn 1:pop pop;process b turn 1:jump 0;stack 16 with a "
                + "1 2 3 4 5 6 7 8 9 10 11 12 13 14 15 16;stack 2 with b;");
        for (int depth = 0; depth < 16; depth++) {
            Check.same("depth " + depth, desk.number(0, depth), 16 - depth);
        }
        int[] none = {16, 17, 32, -1, -16, Integer.MIN_VALUE, Integer.MAX_VALUE};
        for (int depth : none) {
            Check.same("depth " + depth, desk.number(0, depth), StackDesk.NOTHING);
            Check.same("depth " + depth + " of an empty one", desk.number(1, depth), StackDesk.NOTHING);
        }
        desk.run(1);
        Check.same("the top behind pop", desk.number(0, 0), 15);
        Check.same("depth 14 behind pop", desk.number(0, 14), 1);
        Check.same("depth 15 behind pop", desk.number(0, 15), StackDesk.NOTHING);
        Check.same("numbers behind pop", desk.stack(0, 1), 15);
    }

    /** The 8th process, the 12th stack and the 4th slot are as the others. */
    private static void lastThings() {
        StackDesk desk = Check.desk("desk 4;process a:;process b:;process c:;process d:;process e:;process f:;"
                + "process g:;process h turn 9 may 3:swap 3 say halt;stack 1 at 0;stack 1 at 1;stack 1 at 2;"
                + "stack 1 with a;stack 1 with b;stack 1 with c;stack 1 with d;stack 1 with e;stack 1 with f;"
                + "stack 1 with g;stack 16 with h;stack 3 at 3 70;");
        Check.same("hand of h", desk.process(7, 3), 10);
        Check.same("slot 3", desk.slot(3), 11);
        Check.same("holder of 10", desk.stack(10, 2), 7);
        Check.same("slot of 11", desk.stack(11, 3), 3);
        desk.run(8);
        Check.same("hand of h then", desk.process(7, 3), 11);
        Check.same("slot 3 then", desk.slot(3), 10);
        Check.same("holder of 11 then", desk.stack(11, 2), 7);
        Check.same("slot of 11 then", desk.stack(11, 3), StackDesk.NONE);
        Check.same("holder of 10 then", desk.stack(10, 2), StackDesk.NONE);
        Check.same("slot of 10 then", desk.stack(10, 3), 3);
        Check.same("moves of 10", desk.stack(10, 4), 1);
        Check.same("moves of 11", desk.stack(11, 4), 1);
        Check.same("moves of 9", desk.stack(9, 4), 0);
        Check.same("h said", desk.said(7, 0), 70);
        Check.same("ended", desk.count(5), 8);
    }

    /** "the latest 20 that each process said are kept"; more are counted. */
    private static void keptSayings() {
        StackDesk desk = Check.desk("desk 1;process a turn 5:dup say push 1 add jump 0;process b turn 1:jump 0;"
                + "stack 3 with a 1;");
        for (int said = 0; said <= 45; said++) {
            Check.same("how many of " + said, desk.process(0, 10), said);
            for (int back = 0; back <= 45; back++) {
                int due = back < said && back < 20 ? said - back : StackDesk.NOTHING;
                Check.same("said(0, " + back + ") of " + said, desk.said(0, back), due);
            }
            Check.same("said(0, -1) of " + said, desk.said(0, -1), StackDesk.NOTHING);
            Check.same("said(0, least) of " + said, desk.said(0, Integer.MIN_VALUE), StackDesk.NOTHING);
            Check.same("said(0, greatest) of " + said, desk.said(0, Integer.MAX_VALUE), StackDesk.NOTHING);
            desk.run(2);
        }
        Check.same("b said none", desk.process(1, 10), 0);
    }

    /** "The trace has the latest 40 steps and waits": one that is not there any more does not exist. */
    private static void keptTrace() {
        StackDesk desk = Check.desk("desk 1;process a turn 1:jump 1 jump 2 jump 0;");
        for (int steps = 0; steps <= 85; steps++) {
            int kept = Math.min(steps, 40);
            Check.same("trace of " + steps, desk.count(8), kept);
            Check.outside("trace of " + steps, kept, back -> desk.trace(back, 0));
            for (int back = 0; back < kept; back++) {
                int turn = steps - 1 - back;
                Check.traced("trace " + back + " of " + steps, desk, back, turn, 0, turn % 3, 0);
            }
            desk.run(1);
        }
    }

    /** "the number of the turn, the process, the command ..; NONE .., and what came of it". */
    private static void traceOfAll() {
        StackDesk desk = Check.desk("desk 1;process a turn 2 may 0:push 7 mul;process b turn 9 may 0:jump 2 halt take 0;"
                + "process c:jump 24;process d:lay 0;process e:take 0;process f may 0:take 0;process g:push 1;"
                + "process h:mul;stack 9 with a;stack 1 with f;stack 1 with g 1;stack 2 with h 1000 1000;");
        desk.run(8);
        int[][] due = {{0, 0, 0, 0}, {0, 0, 1, 14}, {1, 1, 0, 0}, {1, 1, 2, 1}, {2, 2, 0, 0}, {2, 2, -1, 0},
            {3, 3, 0, 11}, {4, 4, 0, 12}, {5, 5, 0, 13}, {6, 6, 0, 15}, {7, 7, 0, 16}};
        Check.same("entries", desk.count(8), due.length);
        for (int i = 0; i < due.length; i++) {
            Check.traced("entry " + i, desk, due.length - 1 - i, due[i][0], due[i][1], due[i][2], due[i][3]);
        }
    }

    /** "the set, bit k for process k". */
    private static void stuckSets() {
        StackDesk desk = Check.desk(EIGHT);
        Check.same("a and h are stuck", desk.stuck(), 129);
        for (int k = 0; k < 8; k++) {
            Check.same("whyStuck(" + k + ")", desk.whyStuck(k), k % 7 == 0 ? 2 : 0);
        }
        desk.kill(0);
        Check.same("h is stuck", desk.stuck(), 128);
        desk.allow(7, 3, false);
        Check.same("without permission h is not stuck", desk.stuck(), 0);
        StackDesk all = Check.desk(EIGHT.replace(":jump 0", " may 3:take 3"));
        Check.same("all are stuck", all.stuck(), 255);
        Check.same("the desk is stuck", all.count(10), 1);
    }

    /** "ready and its next command would be blocked now": not the ended, the faulty or one behind its program. */
    private static void stuckByState() {
        StackDesk desk = Check.desk("desk 2;process a turn 1 may 0:jump 1 take 0;process b turn 1 may 1:lay 1 swap 1;"
                + "process c turn 1:jump 9;stack 1 with b;stack 1 at 1;");
        Check.same("only the next command counts", desk.whyStuck(0), 0);
        Check.same("b waits for an empty slot", desk.whyStuck(1), 1);
        desk.run(3);
        Check.same("a waits for a stack", desk.whyStuck(0), 2);
        Check.same("c has no command", desk.whyStuck(2), 0);
        Check.same("stuck", desk.stuck(), 3);
        desk.hand(1, 0);
        Check.same("a holds one: a fault is not stuck", desk.whyStuck(0), 0);
        Check.same("b has an empty slot", desk.whyStuck(1), 0);
        desk.run(2);
        Check.same("a is faulty", desk.process(0, 1), 3);
        Check.same("a faulty one is not stuck", desk.stuck(), 0);
        desk.undo();
        desk.undo();
        desk.kill(1);
        Check.same("an ended one is not stuck", desk.whyStuck(1), 0);
        desk.wake(1);
        Check.same("b laid its stack on 0", desk.whyStuck(1), 0);
        StackDesk swap = Check.desk("desk 1;process a may 0:swap 0;process b:;stack 1 with a;");
        Check.same("swap waits for a stack", swap.whyStuck(0), 2);
    }

    /** Ready ones with lay or take of this slot, that may use it; not the process itself. */
    private static void helpers() {
        StackDesk desk = Check.desk("desk 4;process a may 2:take 2 lay 2;process b may 2:jump 0 lay 2;"
                + "process c may 2:jump 0 take 2;process d may 2:jump 0 swap 2;process e may 1 2 3:jump 0 lay 1 lay 3;"
                + "process f may 0 1 3:jump 0 lay 2;process g may 2:take 2 lay 2;process h may 2:lay 2;stack 1 with h;");
        Check.same("helpers of a", desk.helpers(0), 2 + 64 + 128);
        Check.same("helpers of g", desk.helpers(6), 1 + 2 + 128);
        for (int k = 1; k < 8; k++) {
            if (k != 6) {
                Check.same("helpers of one that is not stuck", desk.helpers(k), 0);
            }
        }
        desk.allow(5, 2, true);
        Check.same("helpers with f", desk.helpers(0), 2 + 32 + 64 + 128);
        desk.allow(0, 2, false);
        Check.same("helpers without permission of its own", desk.helpers(0), 0);
        desk.allow(0, 2, true);
        desk.kill(0);
        Check.same("helpers of an ended one", desk.helpers(0), 0);
        Check.same("helpers of g without a", desk.helpers(6), 2 + 32 + 128);
        StackDesk lay = Check.desk("desk 2;process a may 1:lay 1 take 1;process b may 1:lay 1 take 1;"
                + "process c may 1:swap 1;process d may 0 1:take 0;process e may 1:pop take 1;process f:pop take 1;"
                + "stack 1 with a;stack 1 with b;stack 1 with c;stack 1 at 1;");
        Check.same("helpers of lay", lay.helpers(0), 2 + 16);
        Check.same("helpers of the other lay", lay.helpers(1), 1 + 16);
        lay.run(300);
        Check.same("a faulty one helps none", lay.process(4, 0), 2);
    }

    /** "the greatest number of steps of a process minus the least one", of all processes. */
    private static void unfair() {
        StackDesk desk = Check.desk(EIGHT.replace("may 3:take 3", "turn 9:jump 0"));
        desk.run(8);
        Check.same("unfair of 9 and 3", desk.unfair(), 6);
        desk.run(4);
        Check.same("unfair of 18 and 3", desk.unfair(), 15);
        desk.run(4);
        Check.same("unfair of 18 and 6", desk.unfair(), 12);
        StackDesk faulty = Check.desk("desk 1;process a:pop;process b:jump 0;");
        faulty.run(2);
        faulty.run(2);
        Check.same("unfair with a faulty one", faulty.unfair(), 8);
        Check.same("unfair of one process", one().unfair(), 0);
    }

    private static StackDesk one() {
        StackDesk desk = Check.desk("desk 1;process a:jump 0;");
        desk.run(7);
        return desk;
    }

    /** "ready and made the fewest steps, of several the lowest one". */
    private static void hungriest() {
        StackDesk desk = Check.desk("desk 1;process a:pop;process b turn 2:jump 0;process c turn 1:jump 0;"
                + "process d turn 1:jump 0;process e:halt;");
        Check.same("all made none", desk.hungriest(), 0);
        desk.run(5);
        // a is faulty with 1 step, e is ended with 1 step.
        Check.same("c and d made one", desk.hungriest(), 2);
        desk.run(2);
        Check.same("d made one", desk.hungriest(), 3);
        desk.kill(3);
        Check.same("c made two", desk.hungriest(), 2);
        desk.kill(2);
        Check.same("b is the only one", desk.hungriest(), 1);
        desk.wake(4);
        Check.same("e is woken", desk.hungriest(), 4);
        desk.kill(4);
        desk.kill(1);
        Check.same("none is ready", desk.hungriest(), StackDesk.NONE);
        StackDesk stuck = Check.desk("desk 1;process a:jump 0;process b may 0:take 0;");
        stuck.run(2);
        Check.same("a stuck one is ready", stuck.hungriest(), 1);
    }

    /** "waits divided by steps and waits together, both converted to double; 0 if there were none". */
    private static void waitShare() {
        StackDesk desk = Check.desk("desk 1;process a turn 1 may 0:take 0;process b turn 9:jump 0;process c may 0:take 0;");
        int waits = 0;
        int steps = 0;
        for (int turn = 0; turn < 60; turn++) {
            Check.sameDouble("waitShare of " + waits + " and " + steps, desk.waitShare(),
                    turn == 0 ? 0.0 : (double) waits / (double) (waits + steps));
            desk.run(1);
            waits += turn % 3 == 1 ? 0 : 1;
            steps += turn % 3 == 1 ? 9 : 0;
        }
        Check.sameDouble("waitShare of steps alone", one().waitShare(), 0.0);
        StackDesk wait = Check.desk("desk 1;process a may 0:take 0;process b:jump 0;");
        wait.run(1);
        Check.sameDouble("waitShare of waits alone", wait.waitShare(), 1.0);
    }

    /** Floats divided and added up by numbers of stacks; 0 without stacks. */
    private static void fullness() {
        Check.sameDouble("fullness without stacks", one().fullness(), 0.0f);
        int[][] sizes = {{1, 1, 1, 3, 3, 10}, {1, 1, 1, 3, 6, 11}, {1, 1, 2, 3, 2, 5}, {1, 1, 2, 3, 6, 7},
            {1, 1, 2, 3, 1, 9}, {0, 1, 0, 16, 0, 7}, {16, 16, 1, 1, 7, 7}};
        for (int[] size : sizes) {
            StringBuilder text = new StringBuilder("desk 3;process a:;");
            float due = 0.0f;
            for (int i = 0; i < 3; i++) {
                text.append("stack ").append(size[2 * i + 1]).append(" at ").append(2 - i);
                text.append(" 4".repeat(size[2 * i])).append(';');
                float numbers = size[2 * i];
                float room = size[2 * i + 1];
                float share = numbers / room;
                due = due + share;
            }
            Check.sameDouble("fullness of " + text, Check.desk(text.toString()).fullness(), due / 3.0f);
        }
    }
}
