/** Terms 2 and 3: commands, faults, blocked commands, turns. */
public final class StepTest {
    public static void main(String[] args) {
        works();
        jumps();
        ends();
        emptyHand();
        tooFew();
        noRoom();
        results();
        slotFaults();
        moves();
        blocks();
        turns();
        turnOfOneThatWaits();
        runsUntil();
        Check.end();
    }

    /** Runs one process with a stack of room 4 in one turn of nine steps. */
    private static StackDesk one(String program, String numbers) {
        StackDesk desk = Check.desk("desk 1;process a turn 9:" + program + ";stack 4 with a " + numbers + ";");
        desk.run(1);
        return desk;
    }

    private static void becomes(String program, String numbers, String due) {
        StackDesk desk = one(program, numbers);
        Check.same(program, Check.written(desk), due + "@a");
        Check.same("fault of " + program, desk.process(0, 1), 0);
    }

    private static void works() {
        becomes("push 7", "1", "1,7");
        becomes("push -999999", "", "-999999");
        becomes("pop", "1 2", "1");
        becomes("pop", "1", "");
        becomes("dup", "1 2", "1,2,2");
        becomes("flip", "1 2 3", "1,3,2");
        becomes("add", "1 2 3", "1,5");
        becomes("sub", "1 2 30", "1,-28");
        becomes("sub", "5 2", "3");
        becomes("mul", "1 -2 3", "1,-6");
        becomes("mul", "-999 -1001", "999999");
        becomes("say", "1 2", "1");
        becomes("zero 1", "5 0", "5");
        becomes("", "5 0", "5,0");
        StackDesk desk = one("say", "1 2");
        Check.same("what say said", desk.said(0, 0), 2);
        Check.same("place of the end", desk.process(0, 8), 2);
        // Work on the stack moves none.
        Check.same("moves", one("push 1 pop dup flip add", "1 2").stack(0, 4), 0);
    }

    private static void jumps() {
        StackDesk desk = Check.desk("desk 1;process a turn 1:jump 2 push 1 zero 4 push 2 push 3;"
                + "stack 9 with a 8 0 6;");
        desk.run(1);
        Check.stands("jump 2", desk, 0, 0, 0, 2);
        desk.run(1);
        Check.stands("zero 4 of 6", desk, 0, 0, 0, 3);
        Check.same("zero took the top", desk.stack(0, 1), 2);
        desk = one("zero 2 halt push 9", "8 0");
        Check.same("zero of 0 jumps", Check.written(desk), "8,9@a");
        desk = one("zero 2 halt push 9", "0 8");
        Check.same("zero of 8 goes on", Check.written(desk), "0@a");
        desk = one("jump 24", "");
        Check.stands("jump beyond the program", desk, 0, 1, 0, 24);
        Check.same("steps of jump beyond", desk.process(0, 8), 2);
        Check.traced("end beyond", desk, 0, 0, 0, -1, 0);
        desk = Check.desk("desk 1;process a:jump 1;");
        desk.run(1);
        Check.stands("jump without a hand", desk, 0, 1, 0, 1);
    }

    private static void ends() {
        StackDesk desk = Check.desk("desk 1;process a:push 1;process b:halt;stack 1 with a;");
        desk.run(2);
        Check.stands("the end of a", desk, 0, 1, 0, 1);
        Check.same("the end is a step", desk.process(0, 8), 2);
        Check.stands("halt", desk, 1, 1, 0, 0);
        Check.same("halt is a step", desk.process(1, 8), 1);
        Check.traced("halt", desk, 0, 1, 1, 0, 0);
        Check.traced("the end", desk, 1, 0, 0, -1, 0);
        Check.same("a holds its stack", desk.process(0, 3), 0);
        Check.same("turns of none", desk.run(5), 0);
        Check.same("turns so far", desk.count(3), 2);
    }

    private static void fault(String text, int fault, int place) {
        StackDesk desk = Check.desk(text);
        desk.run(1);
        Check.stands(text, desk, 0, 2, fault, place);
        Check.same(text + ": steps", desk.process(0, 8), place + 1);
        Check.same(text + ": waits", desk.process(0, 9), 0);
        Check.traced(text, desk, 0, 0, 0, place, 10 + fault);
    }

    /** No command but take, jump and halt works with an empty hand. */
    private static void emptyHand() {
        String[] commands = {"push 1", "pop", "dup", "flip", "add", "sub", "mul", "say", "lay 0",
            "swap 0", "zero 0"};
        for (String command : commands) {
            fault("desk 1;process a may 0:" + command + ";", 1, 0);
            fault("desk 1;process a:" + command + ";stack 1 at 0;", 1, 0);
        }
        fault("desk 1;process a may 0:lay 0;stack 1 at 0;", 1, 0);
        fault("desk 1;process a may 0:swap 0;", 1, 0);
    }

    private static void tooFew() {
        String[] one = {"pop", "dup", "say", "zero 0"};
        for (String command : one) {
            fault("desk 1;process a:" + command + ";stack 1 with a;", 4, 0);
            Check.same(command + " of one", Check.desk("desk 1;process a turn 1:" + command
                    + ";stack 2 with a 1;").run(1), 1);
        }
        String[] two = {"flip", "add", "sub", "mul"};
        for (String command : two) {
            fault("desk 1;process a:" + command + ";stack 2 with a;", 4, 0);
            fault("desk 1;process a:" + command + ";stack 2 with a 1;", 4, 0);
        }
        StackDesk desk = Check.desk("desk 1;process a:flip;stack 2 with a 1;");
        desk.run(1);
        Check.same("nothing else changes", Check.written(desk), "1@a");
    }

    private static void noRoom() {
        fault("desk 1;process a:push 1;stack 2 with a 1 2;", 5, 0);
        fault("desk 1;process a:dup;stack 1 with a 1;", 5, 0);
        fault("desk 1;process a:push 1 push 2;stack 1 with a;", 5, 1);
        StackDesk desk = Check.desk("desk 1;process a turn 9:push 3 push 4 push 5;stack 2 with a;");
        desk.run(1);
        Check.same("a full stack stays", Check.written(desk), "3,4@a");
        Check.same("steps of a full stack", desk.process(0, 8), 3);
    }

    private static void results() {
        fault("desk 1;process a:add;stack 2 with a 999999 1;", 6, 0);
        fault("desk 1;process a:add;stack 2 with a -999999 -1;", 6, 0);
        fault("desk 1;process a:sub;stack 2 with a -999999 1;", 6, 0);
        fault("desk 1;process a:sub;stack 2 with a 999999 -1;", 6, 0);
        fault("desk 1;process a:mul;stack 2 with a 1000 1000;", 6, 0);
        fault("desk 1;process a:mul;stack 2 with a -1000 1000;", 6, 0);
        // The product is 0 in 32 bits, and 65536 * 65537 is 65536 there.
        fault("desk 1;process a:mul;stack 2 with a 65536 65536;", 6, 0);
        fault("desk 1;process a:mul;stack 2 with a 65536 65537;", 6, 0);
        fault("desk 1;process a:mul;stack 2 with a 999999 999999;", 6, 0);
        becomes("add", "999998 1", "999999");
        becomes("sub", "-999998 1", "-999999");
        becomes("mul", "999999 -1", "-999999");
        StackDesk desk = Check.desk("desk 1;process a:mul;stack 2 with a 1000 1001;");
        desk.run(1);
        Check.same("a wrong result changes nothing", Check.written(desk), "1000,1001@a");
    }

    private static void slotFaults() {
        fault("desk 2;process a may 1:lay 0;stack 1 with a;", 2, 0);
        fault("desk 2;process a:take 0;stack 1 at 0;", 2, 0);
        fault("desk 2;process a may 0:swap 1;stack 1 with a;stack 1 at 1;", 2, 0);
        // Wrong goes ahead of blocked.
        fault("desk 1;process a:lay 0;stack 1 with a;stack 1 at 0;", 2, 0);
        fault("desk 1;process a:take 0;", 2, 0);
        fault("desk 1;process a:swap 0;stack 1 with a;", 2, 0);
        // Fault 2 goes ahead of fault 3, fault 3 ahead of blocked.
        fault("desk 1;process a:take 0;stack 1 with a;", 2, 0);
        fault("desk 1;process a may 0:take 0;stack 1 with a;", 3, 0);
        fault("desk 1;process a may 0:take 0;stack 1 with a;stack 1 at 0;", 3, 0);
    }

    private static void moves() {
        StackDesk desk = Check.desk("desk 4;process a turn 1 may 3 1:swap 3 lay 1 take 3 halt;"
                + "stack 1 with a 5;stack 1 at 3 6;");
        desk.run(1);
        Check.same("swap", Check.written(desk), "5#3 6@a");
        Check.same("swap: the hand", desk.process(0, 3), 1);
        Check.same("swap: the slot", desk.slot(3), 0);
        Check.same("swap: moves of 0", desk.stack(0, 4), 1);
        Check.same("swap: moves of 1", desk.stack(1, 4), 1);
        desk.run(1);
        Check.same("lay", Check.written(desk), "5#3 6#1");
        Check.same("lay: the hand", desk.process(0, 3), StackDesk.NONE);
        Check.same("lay: the slot", desk.slot(1), 1);
        Check.same("lay: moves", desk.stack(1, 4), 2);
        desk.run(1);
        Check.same("take", Check.written(desk), "5@a 6#1");
        Check.same("take: the hand", desk.process(0, 3), 0);
        Check.same("take: the slot", desk.slot(3), StackDesk.NONE);
        Check.same("take: moves", desk.stack(0, 4), 2);
        Check.same("take: holder", desk.stack(0, 2), 0);
        Check.same("take: slot of the stack", desk.stack(0, 3), StackDesk.NONE);
        Check.same("lay: holder", desk.stack(1, 2), StackDesk.NONE);
        Check.same("lay: slot of the stack", desk.stack(1, 3), 1);
    }

    private static void blocked(String text) {
        StackDesk desk = Check.desk(text + "process z turn 9:jump 0;");
        String before = Check.written(desk);
        desk.run(1);
        Check.stands(text, desk, 0, 0, 0, 0);
        Check.same(text + ": steps", desk.process(0, 8), 0);
        Check.same(text + ": waits", desk.process(0, 9), 1);
        Check.same(text + ": turns", desk.process(0, 7), 1);
        Check.same(text + ": steps of all", desk.count(7), 0);
        Check.traced(text, desk, 0, 0, 0, 0, 1);
        Check.same(text + ": stacks", Check.written(desk), before);
    }

    private static void blocks() {
        blocked("desk 2;process a may 1:take 1;");
        StackDesk desk = Check.desk("desk 2;process a may 1:lay 1;process z:jump 0;stack 1 with a;stack 1 at 1;");
        desk.run(3);
        Check.stands("lay", desk, 0, 0, 0, 0);
        Check.same("waits of lay", desk.process(0, 9), 2);
        Check.same("lay waits", Check.written(desk), "@a #1");
        desk = Check.desk("desk 2;process a may 1:swap 1;process z:jump 0;stack 1 with a;stack 1 at 0;");
        desk.run(3);
        Check.stands("swap", desk, 0, 0, 0, 0);
        Check.same("waits of swap", desk.process(0, 9), 2);
        Check.same("swap waits", Check.written(desk), "@a #0");
    }

    private static void turns() {
        StackDesk desk = Check.desk("desk 1;process a turn 2:jump 0;process b:jump 0;process c turn 9:"
                + "jump 1 jump 2 halt;process d turn 9:pop;");
        Check.same("four turns", desk.run(4), 4);
        Check.same("steps of a", desk.process(0, 8), 2);
        Check.same("steps of b", desk.process(1, 8), 3);
        Check.same("steps of c", desk.process(2, 8), 3);
        Check.same("steps of d", desk.process(3, 8), 1);
        Check.same("three turns", desk.run(3), 3);
        Check.same("turns of a", desk.process(0, 7), 3);
        Check.same("turns of b", desk.process(1, 7), 2);
        Check.same("turns of c", desk.process(2, 7), 1);
        Check.same("turns of d", desk.process(3, 7), 1);
        Check.same("turns so far", desk.count(3), 7);
        Check.traced("the latest step", desk, 0, 6, 0, 0, 0);
    }

    /** A turn ends with a wait, also in its middle; the process goes on there later. */
    private static void turnOfOneThatWaits() {
        StackDesk desk = Check.desk("desk 1;process a turn 9 may 0:jump 1 take 0 push 4 lay 0;"
                + "process b turn 1 may 0:jump 1 lay 0 take 0 say;stack 2 with b;");
        Check.same("turns with waits", desk.run(1), 1);
        Check.stands("a waits", desk, 0, 0, 0, 1);
        Check.same("steps of a", desk.process(0, 8), 1);
        Check.same("waits of a", desk.process(0, 9), 1);
        desk.run(1);
        desk.run(1);
        Check.same("waits of a", desk.process(0, 9), 2);
        desk.run(1);
        Check.same("b laid", Check.written(desk), "#0");
        desk.run(1);
        Check.stands("a is ended", desk, 0, 1, 0, 4);
        Check.same("a took and laid", Check.written(desk), "4#0");
        Check.same("moves", desk.stack(0, 4), 3);
        desk.run(2);
        Check.same("b said", desk.said(1, 0), 4);
    }

    private static void runsUntil() {
        StackDesk desk = Check.desk("desk 2;process a turn 1 may 0 1:take 1;process b turn 1 may 0 1:"
                + "jump 1 take 1;process c turn 1:jump 1 jump 2 halt;");
        // The desk is stuck when c is ended and a and b wait for ever.
        Check.same("run until stuck", desk.run(300), 9);
        Check.same("the desk is stuck", desk.count(10), 1);
        Check.same("run of a stuck desk", desk.run(1), 0);
        Check.same("turns so far", desk.count(3), 9);
        Check.same("waits of a", desk.process(0, 9), 3);
        Check.same("waits of b", desk.process(1, 9), 2);
        desk = Check.desk("desk 1;process a:jump 0;");
        Check.same("run 300", desk.run(300), 300);
        Check.same("steps of 300", desk.count(7), 900);
    }
}
