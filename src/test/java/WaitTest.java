/** Promises 13 to 19: waiting and fairness. */
public final class WaitTest {
    public static void main(String[] args) {
        reasons();
        wrongIsNotStuck();
        helpersForStack();
        helpersForEmpty();
        unfairTurns();
        hungry();
        shares();
        full();
        Check.end();
    }

    private static void reasons() {
        StackDesk desk = Check.desk("desk 4;process a may 0:lay 0;process b may 1:take 1;"
                + "process c may 1:swap 1;process d may 0:take 0;process e may 1:lay 1;"
                + "process f:jump 0;process g:halt;process h:;"
                + "stack 1 with a;stack 1 with c;stack 1 at 0;stack 1 with e;");
        int[] due = {1, 2, 2, 0, 0, 0, 0, 0};
        for (int k = 0; k < 8; k++) {
            Check.same("whyStuck(" + k + ")", desk.whyStuck(k), due[k]);
        }
        Check.same("stuck", desk.stuck(), 7);
        desk.kill(1);
        Check.same("whyStuck of an ended one", desk.whyStuck(1), 0);
        Check.same("stuck without an ended one", desk.stuck(), 5);
        Check.fails("whyStuck(8)", Check.INDEX, () -> desk.whyStuck(8));
        Check.fails("whyStuck(-1)", Check.INDEX, () -> desk.whyStuck(-1));
        StackDesk one = new StackDesk();
        Check.fails("whyStuck(1) of one", Check.INDEX, () -> one.whyStuck(1));
        Check.same("stuck of a new object", one.stuck(), 0);
    }

    /** A command that is wrong is never blocked. */
    private static void wrongIsNotStuck() {
        StackDesk desk = Check.desk("desk 2;process a:take 0;process b may 0:take 0;process c may 1:lay 1;"
                + "process d may 0:lay 1;process e may 0:swap 0;process f:swap 0;"
                + "stack 1 with b;stack 1 at 1;stack 1 with d;stack 1 with f;");
        for (int k = 0; k < 6; k++) {
            Check.same("whyStuck(" + k + ") of a wrong one", desk.whyStuck(k), 0);
        }
        Check.same("stuck of wrong ones", desk.stuck(), 0);
        Check.same("no desk of wrong ones is stuck", desk.count(10), 0);
    }

    private static void helpersForStack() {
        StackDesk desk = Check.desk("desk 2;process a may 0:take 0 lay 0;process b may 0:jump 0 lay 0;"
                + "process c may 1:lay 0;process d may 0:lay 1;process e may 0 1:swap 0 take 0;"
                + "process f may 0:take 0 lay 0;process g may 0:lay 0;process h may 0:swap 0;"
                + "stack 1 with h;");
        Check.same("helpers of take", desk.helpers(0), 2 + 32 + 64);
        Check.same("helpers of swap", desk.helpers(7), 1 + 2 + 32 + 64);
        Check.same("helpers of one that is not stuck", desk.helpers(1), 0);
        desk.kill(6);
        Check.same("helpers without an ended one", desk.helpers(0), 2 + 32);
        desk.allow(1, 0, false);
        Check.same("helpers without permission", desk.helpers(0), 32);
        desk.allow(2, 0, true);
        Check.same("helpers with permission", desk.helpers(0), 4 + 32);
        Check.fails("helpers(8)", Check.INDEX, () -> desk.helpers(8));
        Check.fails("helpers(-1)", Check.INDEX, () -> desk.helpers(-1));
    }

    private static void helpersForEmpty() {
        StackDesk desk = Check.desk("desk 2;process a may 0:lay 0 take 0;process b may 0:jump 0 take 0;"
                + "process c may 1:take 0;process d may 0 1:take 1;process e may 0:lay 0;"
                + "process f may 0:swap 0;process g may 0:pop take 0;"
                + "stack 1 with a;stack 1 at 0;");
        Check.same("helpers of lay", desk.helpers(0), 2 + 64);
        desk.run(7);
        Check.stands("g", desk, 6, 2, 1, 0);
        // b goes round; g is faulty; the others are faulty or stuck.
        Check.same("helpers of lay then", desk.helpers(0), 2);
    }

    private static void unfairTurns() {
        StackDesk desk = Check.desk("desk 1;process a turn 2:jump 0;process b turn 7:jump 0;process c turn 4:jump 0;");
        Check.same("unfair at first", desk.unfair(), 0);
        desk.run(1);
        Check.same("unfair of 2 0 0", desk.unfair(), 2);
        desk.run(1);
        Check.same("unfair of 2 7 0", desk.unfair(), 7);
        desk.run(1);
        Check.same("unfair of 2 7 4", desk.unfair(), 5);
        desk.kill(0);
        Check.same("unfair counts the ended ones, too", desk.unfair(), 5);
        desk.run(1);
        Check.same("unfair of 2 14 4", desk.unfair(), 12);
        Check.same("unfair of one", new StackDesk().unfair(), 0);
        StackDesk waits = Check.desk("desk 1;process a may 0:take 0;process b turn 1:jump 0;");
        waits.run(4);
        Check.same("waits are no steps", waits.unfair(), 2);
    }

    private static void hungry() {
        StackDesk desk = Check.desk("desk 1;process a turn 2:jump 0;process b turn 7:jump 0;process c turn 2:jump 0;");
        Check.same("hungriest at first", desk.hungriest(), 0);
        desk.run(1);
        Check.same("hungriest of 2 0 0", desk.hungriest(), 1);
        desk.run(1);
        Check.same("hungriest of 2 7 0", desk.hungriest(), 2);
        desk.run(1);
        Check.same("hungriest of 2 7 2", desk.hungriest(), 0);
        desk.kill(0);
        Check.same("hungriest without a", desk.hungriest(), 2);
        desk.kill(2);
        Check.same("hungriest is b", desk.hungriest(), 1);
        desk.kill(1);
        Check.same("hungriest of none", desk.hungriest(), StackDesk.NONE);
    }

    private static void shares() {
        StackDesk desk = Check.desk("desk 1;process a may 0:take 0;process b turn 2:jump 0;");
        Check.sameDouble("waitShare at first", desk.waitShare(), 0.0);
        desk.run(1);
        Check.sameDouble("waitShare of 1 wait", desk.waitShare(), 1.0);
        desk.run(1);
        Check.sameDouble("waitShare of 1 in 3", desk.waitShare(), 1.0 / 3.0);
        desk.run(3);
        Check.sameDouble("waitShare of 3 in 7", desk.waitShare(), 3.0 / 7.0);
        desk.undo();
        Check.sameDouble("waitShare behind undo", desk.waitShare(), 1.0 / 3.0);
        StackDesk none = Check.desk("desk 1;process a:jump 0;");
        none.run(3);
        Check.sameDouble("waitShare of no waits", none.waitShare(), 0.0);
    }

    private static void full() {
        Check.sameDouble("fullness of none", new StackDesk().fullness(), 0.0f);
        StackDesk desk = Check.desk("desk 2;process a:;stack 3 with a 1;stack 7 at 0 1 2;stack 16 at 1 1 2 3 4 5;");
        float due = 1.0f / 3.0f;
        due += 2.0f / 7.0f;
        due += 5.0f / 16.0f;
        due /= 3.0f;
        Check.sameDouble("fullness", desk.fullness(), due);
        desk.put(0, 1);
        desk.put(0, 1);
        due = 3.0f / 3.0f;
        due += 2.0f / 7.0f;
        due += 5.0f / 16.0f;
        due /= 3.0f;
        Check.sameDouble("fullness with a full one", desk.fullness(), due);
        Check.sameDouble("fullness of an empty one", Check.desk("desk 1;process a:;stack 3 with a;").fullness(), 0.0f);
        Check.sameDouble("fullness of a full one", Check.desk("desk 1;process a:;stack 1 with a 0;").fullness(), 1.0f);
        orderOfFloats();
    }

    /** The floats are added up in the order of the stacks, and not as doubles. */
    private static void orderOfFloats() {
        int[] rooms = {3, 7, 11, 13, 9, 6, 15, 14, 12, 10, 5, 16};
        StringBuilder text = new StringBuilder("desk 4;");
        for (int i = 0; i < 8; i++) {
            text.append("process ").append((char) ('a' + i)).append(":;");
        }
        for (int i = 0; i < 12; i++) {
            text.append("stack ").append(rooms[i]);
            text.append(i < 4 ? " at " + i : " with " + (char) ('a' + i - 4)).append(" 1 1;");
        }
        float due = 0.0f;
        for (int room : rooms) {
            due += 2.0f / (float) room;
        }
        Check.sameDouble("fullness of twelve", Check.desk(text.toString()).fullness(), due / 12.0f);
    }
}
