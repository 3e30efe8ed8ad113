/** Promises 5 to 12: what is asked of the desk, its processes, stacks and trace. */
public final class AskTest {
    private static final String TEXT = "desk 3;process a turn 4 may 2 0:push 5 say lay 0 take 2;"
            + "process bb may 1:pop jump 9;process c turn 1:halt;"
            + "stack 4 with a 1 -2;stack 9 at 2;stack 1 at 1 77;";

    public static void main(String[] args) {
        counts();
        countsOfStates();
        nextTurn();
        stuckDesk();
        processes();
        stacks();
        numbers();
        slots();
        commands();
        sayings();
        keptSayings();
        traces();
        keptTrace();
        Check.end();
    }

    private static void counts() {
        StackDesk desk = Check.desk(TEXT);
        Check.same("slots", desk.count(0), 3);
        Check.same("processes", desk.count(1), 3);
        Check.same("stacks", desk.count(2), 3);
        Check.same("turns at first", desk.count(3), 0);
        Check.same("steps at first", desk.count(7), 0);
        Check.same("trace at first", desk.count(8), 0);
        desk.run(2);
        Check.same("turns", desk.count(3), 2);
        Check.same("steps of a and the fault of bb", desk.count(7), 5);
        Check.same("trace", desk.count(8), 5);
        Check.fails("count(11)", Check.ARGUMENT, () -> desk.count(11));
        Check.fails("count(-1)", Check.ARGUMENT, () -> desk.count(-1));
        Check.fails("count of the least int", Check.ARGUMENT, () -> desk.count(Integer.MIN_VALUE));
    }

    private static void countsOfStates() {
        StackDesk desk = Check.desk(TEXT);
        Check.same("ready at first", desk.count(4), 3);
        desk.run(3);
        Check.same("ready", desk.count(4), 1);
        Check.same("ended", desk.count(5), 1);
        Check.same("faulty", desk.count(6), 1);
        desk.kill(0);
        Check.same("ready behind kill", desk.count(4), 0);
        Check.same("ended behind kill", desk.count(5), 2);
        Check.same("next of none", desk.count(9), StackDesk.NONE);
        Check.same("a desk where none is ready is not stuck", desk.count(10), 0);
    }

    private static void nextTurn() {
        StackDesk desk = Check.desk("desk 1;process a:jump 0;process b:jump 0;process c:jump 0;");
        Check.same("next at first", desk.count(9), 0);
        desk.run(1);
        Check.same("next behind a", desk.count(9), 1);
        desk.kill(1);
        Check.same("next when b is ended", desk.count(9), 2);
        desk.run(1);
        Check.same("next goes round", desk.count(9), 0);
        desk.kill(0);
        Check.same("next is the only one", desk.count(9), 2);
        desk.wake(1);
        Check.same("next behind wake", desk.count(9), 1);
        desk.kill(2);
        desk.kill(1);
        Check.same("next of none", desk.count(9), StackDesk.NONE);
        StackDesk first = Check.desk("desk 1;process a:;process b:;");
        first.kill(0);
        Check.same("next without the first one", first.count(9), 1);
    }

    private static void stuckDesk() {
        StackDesk desk = Check.desk("desk 1;process a may 0:take 0;process b:;");
        Check.same("one is not stuck", desk.count(10), 0);
        desk.kill(1);
        Check.same("all that are ready are stuck", desk.count(10), 1);
        Check.same("next of a stuck desk", desk.count(9), 0);
        desk.kill(0);
        Check.same("none is ready", desk.count(10), 0);
    }

    private static void processes() {
        StackDesk desk = Check.desk(TEXT);
        int[][] first = {{0, 0, 0, 0, 4, 4, 5, 0, 0, 0, 0}, {0, 0, 0, -1, 2, 3, 2, 0, 0, 0, 0},
            {0, 0, 0, -1, 1, 1, 0, 0, 0, 0, 0}};
        int[][] then = {{0, 0, 4, 1, 4, 4, 5, 1, 4, 0, 1}, {2, 1, 0, -1, 2, 3, 2, 1, 1, 0, 0},
            {1, 0, 0, -1, 1, 1, 0, 1, 1, 0, 0}};
        for (int k = 0; k < 3; k++) {
            for (int what = 0; what < 11; what++) {
                Check.same("process(" + k + ", " + what + ") at first", desk.process(k, what), first[k][what]);
            }
        }
        desk.run(3);
        for (int k = 0; k < 3; k++) {
            for (int what = 0; what < 11; what++) {
                Check.same("process(" + k + ", " + what + ") then", desk.process(k, what), then[k][what]);
            }
        }
        Check.fails("process(3, 0)", Check.INDEX, () -> desk.process(3, 0));
        Check.fails("process(8, 0)", Check.INDEX, () -> desk.process(8, 0));
        Check.fails("process(-1, 0)", Check.INDEX, () -> desk.process(-1, 0));
        Check.fails("process(3, 11)", Check.INDEX, () -> desk.process(3, 11));
        Check.fails("process(2, 11)", Check.ARGUMENT, () -> desk.process(2, 11));
        Check.fails("process(0, -1)", Check.ARGUMENT, () -> desk.process(0, -1));
    }

    private static void stacks() {
        StackDesk desk = Check.desk(TEXT);
        int[][] first = {{4, 2, 0, -1, 0}, {9, 0, -1, 2, 0}, {1, 1, -1, 1, 0}};
        int[][] then = {{4, 2, -1, 0, 1}, {9, 0, 0, -1, 1}, {1, 1, -1, 1, 0}};
        for (int k = 0; k < 3; k++) {
            for (int what = 0; what < 5; what++) {
                Check.same("stack(" + k + ", " + what + ") at first", desk.stack(k, what), first[k][what]);
            }
        }
        desk.run(1);
        for (int k = 0; k < 3; k++) {
            for (int what = 0; what < 5; what++) {
                Check.same("stack(" + k + ", " + what + ") then", desk.stack(k, what), then[k][what]);
            }
        }
        Check.fails("stack(3, 0)", Check.INDEX, () -> desk.stack(3, 0));
        Check.fails("stack(12, 0)", Check.INDEX, () -> desk.stack(12, 0));
        Check.fails("stack(-1, 5)", Check.INDEX, () -> desk.stack(-1, 5));
        Check.fails("stack(0, 5)", Check.ARGUMENT, () -> desk.stack(0, 5));
        Check.fails("stack(0, -1)", Check.ARGUMENT, () -> desk.stack(0, -1));
        StackDesk none = new StackDesk();
        Check.fails("stack(0, 0) of none", Check.INDEX, () -> none.stack(0, 0));
    }

    private static void numbers() {
        StackDesk desk = Check.desk("desk 1;process a:pop;stack 3 at 0 1 -2 30;stack 16 with a;");
        Check.same("number(0, 0)", desk.number(0, 0), 30);
        Check.same("number(0, 1)", desk.number(0, 1), -2);
        Check.same("number(0, 2)", desk.number(0, 2), 1);
        Check.same("number(0, 3)", desk.number(0, 3), StackDesk.NOTHING);
        Check.same("number(0, 16)", desk.number(0, 16), StackDesk.NOTHING);
        Check.same("number(0, -1)", desk.number(0, -1), StackDesk.NOTHING);
        Check.same("number of the greatest depth", desk.number(0, Integer.MAX_VALUE), StackDesk.NOTHING);
        Check.same("number of the least depth", desk.number(0, Integer.MIN_VALUE), StackDesk.NOTHING);
        Check.same("number of an empty stack", desk.number(1, 0), StackDesk.NOTHING);
        Check.fails("number(2, 0)", Check.INDEX, () -> desk.number(2, 0));
        Check.fails("number(-1, 0)", Check.INDEX, () -> desk.number(-1, 0));
    }

    private static void slots() {
        StackDesk desk = Check.desk(TEXT);
        Check.same("slot(0)", desk.slot(0), StackDesk.NONE);
        Check.same("slot(1)", desk.slot(1), 2);
        Check.same("slot(2)", desk.slot(2), 1);
        desk.run(1);
        Check.same("slot(0) behind lay", desk.slot(0), 0);
        Check.same("slot(2) behind take", desk.slot(2), StackDesk.NONE);
        Check.fails("slot(3)", Check.INDEX, () -> desk.slot(3));
        Check.fails("slot(-1)", Check.INDEX, () -> desk.slot(-1));
        Check.fails("slot(4)", Check.INDEX, () -> desk.slot(4));
    }

    private static void commands() {
        StackDesk desk = Check.desk("desk 4;process a:push -5 pop dup flip add sub mul say lay 1 take 2 "
                + "swap 3 jump 24 zero 7 halt;process b:;");
        int[] operands = {-5, 0, 0, 0, 0, 0, 0, 0, 1, 2, 3, 24, 7, 0};
        Check.same("commands", desk.process(0, 4), 14);
        for (int kind = 0; kind < 14; kind++) {
            Check.same("command " + kind, desk.command(0, kind, 0), kind);
            Check.same("number of command " + kind, desk.command(0, kind, 1), operands[kind]);
        }
        Check.fails("command(2, 0, 0)", Check.INDEX, () -> desk.command(2, 0, 0));
        Check.fails("command(-1, 0, 0)", Check.INDEX, () -> desk.command(-1, 0, 0));
        Check.fails("command(0, 14, 0)", Check.INDEX, () -> desk.command(0, 14, 0));
        Check.fails("command(0, -1, 0)", Check.INDEX, () -> desk.command(0, -1, 0));
        Check.fails("command(1, 0, 2)", Check.INDEX, () -> desk.command(1, 0, 2));
        Check.fails("command(0, 24, 9)", Check.INDEX, () -> desk.command(0, 24, 9));
        Check.fails("command(0, 0, 2)", Check.ARGUMENT, () -> desk.command(0, 0, 2));
        Check.fails("command(0, 0, -1)", Check.ARGUMENT, () -> desk.command(0, 0, -1));
    }

    private static void sayings() {
        StackDesk desk = Check.desk("desk 1;process a turn 9:say say say;process b:;stack 3 with a 5 -6 7;");
        Check.same("said of none", desk.said(0, 0), StackDesk.NOTHING);
        desk.run(1);
        Check.same("said(0, 0)", desk.said(0, 0), 5);
        Check.same("said(0, 1)", desk.said(0, 1), -6);
        Check.same("said(0, 2)", desk.said(0, 2), 7);
        Check.same("said(0, 3)", desk.said(0, 3), StackDesk.NOTHING);
        Check.same("said(0, -1)", desk.said(0, -1), StackDesk.NOTHING);
        Check.same("said of the least back", desk.said(0, Integer.MIN_VALUE), StackDesk.NOTHING);
        Check.same("said of the other one", desk.said(1, 0), StackDesk.NOTHING);
        Check.fails("said(2, 0)", Check.INDEX, () -> desk.said(2, 0));
        Check.fails("said(-1, 0)", Check.INDEX, () -> desk.said(-1, 0));
    }

    /** The latest 20 numbers are kept, all are counted. */
    private static void keptSayings() {
        StackDesk desk = Check.desk("desk 1;process a turn 5:dup say push 1 add jump 0;stack 3 with a 100;");
        desk.run(20);
        Check.same("said(0, 19) of 20", desk.said(0, 19), 100);
        desk.run(5);
        Check.same("how many were said", desk.process(0, 10), 25);
        for (int back = 0; back < 20; back++) {
            Check.same("said(0, " + back + ") of 25", desk.said(0, back), 124 - back);
        }
        Check.same("said(0, 20) of 25", desk.said(0, 20), StackDesk.NOTHING);
        Check.same("said of the greatest back", desk.said(0, Integer.MAX_VALUE), StackDesk.NOTHING);
    }

    private static void traces() {
        StackDesk desk = Check.desk("desk 1;process a may 0:push 1 take 0;process b may 0:take 0;process c:;");
        Check.fails("trace(0, 0) of none", Check.INDEX, () -> desk.trace(0, 0));
        Check.fails("trace(0, 9) of none", Check.INDEX, () -> desk.trace(0, 9));
        desk.run(3);
        Check.same("trace", desk.count(8), 3);
        Check.traced("the end of c", desk, 0, 2, 2, -1, 0);
        Check.traced("the wait of b", desk, 1, 1, 1, 0, 1);
        Check.traced("the fault of a", desk, 2, 0, 0, 0, 11);
        Check.fails("trace(3, 0)", Check.INDEX, () -> desk.trace(3, 0));
        Check.fails("trace(-1, 0)", Check.INDEX, () -> desk.trace(-1, 0));
        Check.fails("trace(3, 4)", Check.INDEX, () -> desk.trace(3, 4));
        Check.fails("trace(0, 4)", Check.ARGUMENT, () -> desk.trace(0, 4));
        Check.fails("trace(0, -1)", Check.ARGUMENT, () -> desk.trace(0, -1));
    }

    /** The latest 40 steps and waits are kept. */
    private static void keptTrace() {
        StackDesk desk = Check.desk("desk 1;process a turn 1:jump 1 jump 0;process b turn 1 may 0:take 0;");
        desk.run(50);
        Check.same("trace of 50", desk.count(8), 40);
        for (int back = 0; back < 40; back++) {
            int turn = 49 - back;
            if (turn % 2 == 1) {
                Check.traced("wait " + back, desk, back, turn, 1, 0, 1);
            } else {
                Check.traced("step " + back, desk, back, turn, 0, turn / 2 % 2, 0);
            }
        }
        Check.fails("trace(40, 0) of 50", Check.INDEX, () -> desk.trace(40, 0));
        Check.same("steps of 50", desk.count(7), 25);
        Check.same("waits of 50", desk.process(1, 9), 25);
    }
}
