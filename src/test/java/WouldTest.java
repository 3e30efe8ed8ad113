/** Promises 20 to 24: what would be, without any change. */
public final class WouldTest {
    private static final String ROUND = "desk 1;process a turn 1:jump 0;";

    public static void main(String[] args) {
        left();
        leftAtTheLimit();
        says();
        fails();
        fair();
        fairBehindSteps();
        best();
        bestOfSeveral();
        nothingChanges();
        Check.end();
    }

    private static void left() {
        StackDesk desk = new StackDesk();
        Check.same("turnsLeft of a new object", desk.turnsLeft(), 1);
        desk.run(1);
        Check.same("turnsLeft of an ended desk", desk.turnsLeft(), 0);
        Check.same("turnsLeft of a stuck desk", Check.desk("desk 1;process a may 0:take 0;").turnsLeft(), 0);
        desk = Check.desk("desk 1;process a may 0:take 0;process b turn 1:jump 1 jump 2 halt;");
        Check.same("turnsLeft until stuck", desk.turnsLeft(), 6);
        desk.run(2);
        Check.same("turnsLeft then", desk.turnsLeft(), 4);
        Check.same("turnsLeft of a round", Check.desk(ROUND).turnsLeft(), StackDesk.NONE);
    }

    /** A countdown of n numbers takes 5 n + 3 steps, one a turn. */
    private static StackDesk countdown(int from) {
        return Check.desk("desk 1;process a turn 1:dup zero 6 push 1 sub jump 0 halt pop;stack 4 with a "
                + from + ";");
    }

    private static void leftAtTheLimit() {
        Check.same("turnsLeft of 299", countdown(59).turnsLeft(), 299);
        StackDesk desk = Check.desk("desk 1;process a turn 1:jump 1 dup zero 7 push 1 sub jump 1 halt pop;"
                + "stack 4 with a 59;");
        Check.same("turnsLeft of 300", desk.turnsLeft(), 300);
        Check.same("turns of 300", desk.run(300), 300);
        Check.same("turnsLeft behind 300", desk.turnsLeft(), 0);
        desk = Check.desk("desk 1;process a turn 1:jump 1 jump 2 dup zero 8 push 1 sub jump 2 halt pop;"
                + "stack 4 with a 59;");
        Check.same("turnsLeft of 301", desk.turnsLeft(), StackDesk.NONE);
        desk.run(1);
        Check.same("turnsLeft of 301 behind one", desk.turnsLeft(), 300);
        Check.same("turnsLeft of 304", countdown(60).turnsLeft(), StackDesk.NONE);
    }

    private static void says() {
        StackDesk desk = Check.desk("desk 1;process a turn 4:dup say push 1 add jump 0;process b:;"
                + "stack 3 with a 10;");
        Check.same("wouldSay of none", desk.wouldSay(0, 0), StackDesk.NOTHING);
        Check.same("wouldSay behind 1", desk.wouldSay(0, 1), 10);
        Check.same("wouldSay behind 2", desk.wouldSay(0, 2), 10);
        Check.same("wouldSay behind 4", desk.wouldSay(0, 4), 12);
        Check.same("wouldSay behind 300", desk.wouldSay(0, 300), 248);
        Check.same("wouldSay of b", desk.wouldSay(1, 300), StackDesk.NOTHING);
        desk.run(1);
        Check.same("wouldSay of what was said", desk.wouldSay(0, 0), 10);
        desk.kill(0);
        Check.same("wouldSay of an ended one", desk.wouldSay(0, 9), 10);
        Check.fails("wouldSay(2, 0)", Check.INDEX, () -> desk.wouldSay(2, 0));
        Check.fails("wouldSay(-1, -1)", Check.INDEX, () -> desk.wouldSay(-1, -1));
        Check.fails("wouldSay(0, -1)", Check.ARGUMENT, () -> desk.wouldSay(0, -1));
        Check.fails("wouldSay(1, 301)", Check.ARGUMENT, () -> desk.wouldSay(1, 301));
    }

    private static void fails() {
        StackDesk desk = Check.desk("desk 1;process a turn 1:jump 1 push 1;process b may 0:take 0;"
                + "process c:jump 0;");
        Check.same("wouldFail of a", desk.wouldFail(0), 1);
        Check.same("wouldFail of one that waits", desk.wouldFail(1), 0);
        Check.same("wouldFail of a round", desk.wouldFail(2), 0);
        desk.run(4);
        Check.same("wouldFail of a faulty one", desk.wouldFail(0), 1);
        Check.fails("wouldFail(3)", Check.INDEX, () -> desk.wouldFail(3));
        Check.fails("wouldFail(-1)", Check.INDEX, () -> desk.wouldFail(-1));
        // pop of an empty stack is the 300th step, or the one behind it.
        Check.same("wouldFail in time", Check.desk("desk 1;process a turn 1:jump 1 dup zero 6 push 1 sub jump 1 "
                + "pop pop;stack 4 with a 59;").wouldFail(0), 4);
        Check.same("wouldFail too late", Check.desk("desk 1;process a turn 1:jump 1 jump 2 dup zero 7 push 1 sub "
                + "jump 2 pop pop;stack 4 with a 59;").wouldFail(0), 0);
    }

    private static void fair() {
        Check.same("fairest of a new object", new StackDesk().fairest(), 1);
        // 60 turns of 2: always fair, the least length is told.
        Check.same("fairest of two rounds", Check.desk("desk 1;process a turn 9:jump 0;process b:jump 0;").fairest(), 1);
        StackDesk desk = Check.desk("desk 1;process a:jump 1 jump 2 jump 3 jump 4 jump 5 halt;process b:jump 0;");
        Check.same("fairest with a short one", desk.fairest(), fairestBySteps(
                "desk 1;process a turn %:jump 1 jump 2 jump 3 jump 4 jump 5 halt;process b turn %:jump 0;"));
        String[] texts = {
            "desk 1;process a turn % may 0:lay 0 take 0 jump 0;process b turn % may 0:take 0 lay 0 jump 0;"
                    + "process c turn % may 0:swap 0 jump 0;stack 1 with a;stack 1 with c;",
            "desk 1;process a turn % may 0:jump 1 take 0 lay 0 jump 0;"
                    + "process b turn %:jump 1 jump 2 jump 3 jump 4 jump 5 jump 0;"
                    + "process c turn % may 0:lay 0 take 0 jump 0;stack 1 with c;",
            "desk 1;process a turn % may 0:lay 0 take 0;process b turn % may 0:take 0 jump 1 take 0;stack 1 with a;",
            "desk 1;process a turn % may 0:jump 1 lay 0 take 0;process b turn % may 0:take 0 jump 1;stack 1 with a;",
            "desk 1;process a turn % may 0:jump 1 lay 0 jump 3 take 0 swap 0;"
                    + "process b turn % may 0:jump 1 take 0 jump 2;stack 1 with a;"};
        for (String text : texts) {
            Check.same("fairest of " + text, Check.desk(text.replace("turn %", "")).fairest(), fairestBySteps(text));
        }
        Check.same("fairest is 4", Check.desk(texts[4].replace('%', '9')).fairest(), 4);
    }

    /** The length that loading the text with each length and running it tells. */
    private static int fairestBySteps(String text) {
        int best = 0;
        int least = Integer.MAX_VALUE;
        for (int length = 1; length <= 9; length++) {
            StackDesk desk = Check.desk(text.replace("%", "" + length));
            desk.run(60);
            if (desk.unfair() < least) {
                least = desk.unfair();
                best = length;
            }
        }
        return best;
    }

    /** A desk where a is ended behind so many steps, and b and maybe c have made none. */
    private static StackDesk behind(int steps, String others) {
        StackDesk desk = Check.desk("desk 1;process a turn 9:jump 0;process b turn 2:jump 0;" + others);
        for (int k = 1; k < desk.count(1); k++) {
            desk.kill(k);
        }
        desk.run(steps / 9);
        desk.setTurn(0, 1);
        if (steps % 9 != 0) {
            desk.run(steps % 9);
        }
        desk.kill(0);
        for (int k = 1; k < desk.count(1); k++) {
            desk.wake(k);
        }
        Check.same("unfair of " + steps, desk.unfair(), steps);
        return desk;
    }

    /** The steps that were made count, too: b makes 60 times the length more. */
    private static void fairBehindSteps() {
        for (int length = 1; length <= 9; length++) {
            Check.same("fairest of 60 times " + length, behind(60 * length, "").fairest(), length);
        }
        Check.same("fairest between 8 and 9", behind(510, "").fairest(), 8);
        Check.same("fairest above the middle", behind(511, "").fairest(), 9);
        Check.same("fairest below the middle", behind(509, "").fairest(), 8);
        Check.same("fairest of 61 turns would be 8", behind(514, "").fairest(), 9);
        Check.same("fairest of 59 turns would be 9", behind(505, "").fairest(), 8);
        Check.same("fairest with two", behind(210, "process c turn 5:jump 0;").fairest(), 7);
        StackDesk desk = behind(100, "");
        desk.fairest();
        Check.same("length stays", desk.process(1, 5), 2);
        Check.same("unfair stays", desk.unfair(), 100);
    }

    private static void best() {
        StackDesk desk = Check.desk("desk 3;process a:take 1;process b:jump 0;stack 1 at 1;stack 1 at 2;");
        Check.same("bestSlot of a", desk.bestSlot(0), 1);
        Check.same("bestSlot of b", desk.bestSlot(1), StackDesk.NONE);
        desk.allow(0, 1, true);
        Check.same("bestSlot when it is allowed", desk.bestSlot(0), StackDesk.NONE);
        Check.fails("bestSlot(2)", Check.INDEX, () -> desk.bestSlot(2));
        Check.fails("bestSlot(-1)", Check.INDEX, () -> desk.bestSlot(-1));
        // Which slot the next command needs does not help if it would be blocked.
        StackDesk empty = Check.desk("desk 2;process a:take 1;process b:jump 0;stack 1 at 0;");
        Check.same("bestSlot of one that would wait", empty.bestSlot(0), StackDesk.NONE);
        StackDesk ended = Check.desk("desk 2;process a:halt;");
        Check.same("bestSlot when all end", ended.bestSlot(0), StackDesk.NONE);
        StackDesk faulty = Check.desk("desk 2;process a:take 1;stack 1 at 1;");
        faulty.run(1);
        Check.same("bestSlot of a faulty one", faulty.bestSlot(0), StackDesk.NONE);
    }

    /** The slot may help other processes, too; it has to help. */
    private static void bestOfSeveral() {
        // a lays its stack on 2 for b and c, if it may; else it is faulty.
        StackDesk desk = Check.desk("desk 4;process a:lay 2;process b may 2:take 2 lay 2;"
                + "process c may 2:take 2;process d:jump 0;stack 1 with a;");
        Check.same("bestSlot for three", desk.bestSlot(0), 2);
        desk.allow(0, 2, true);
        desk.run(9);
        Check.same("ended then", desk.count(5), 3);
        // Neither 1 nor 3 suffices alone.
        desk = Check.desk("desk 4;process a:take 1 lay 3;process d:jump 0;stack 1 at 1;");
        Check.same("bestSlot of two that lack", desk.bestSlot(0), StackDesk.NONE);
        // With 3 a is faulty all the same, but b ends.
        desk = Check.desk("desk 4;process a:lay 3 lay 1;process b may 3:take 3;process d:jump 0;stack 1 with a;");
        Check.same("bestSlot for another one", desk.bestSlot(0), 3);
        // The slots that a may use already stay.
        desk = Check.desk("desk 3;process a may 2:take 2 lay 1;process d:jump 0;stack 1 at 2;");
        Check.same("bestSlot beside another one", desk.bestSlot(0), 1);
        // With 0 a would end, but b, which ends now, would wait for ever.
        desk = Check.desk("desk 1;process a:take 0;process b may 0:take 0;process d:jump 0;stack 1 at 0;");
        Check.same("bestSlot that harms another one", desk.bestSlot(0), StackDesk.NONE);
        // The end comes in turn 300, or one later.
        desk = Check.desk("desk 1;process a turn 1:take 0 dup zero 7 push 1 sub jump 1 halt pop;stack 4 at 0 59;");
        Check.same("bestSlot in time", desk.bestSlot(0), 0);
        desk = Check.desk("desk 1;process a turn 1:jump 1 take 0 dup zero 8 push 1 sub jump 2 halt pop;"
                + "stack 4 at 0 59;");
        Check.same("bestSlot too late", desk.bestSlot(0), StackDesk.NONE);
    }

    private static void nothingChanges() {
        StackDesk desk = Check.desk("desk 2;process a turn 2 may 0:push 1 dup say jump 0;process b:take 1;"
                + "process c may 0:take 0;stack 9 with a;stack 2 at 1 5;");
        desk.run(2);
        String before = Check.state(desk);
        desk.turnsLeft();
        desk.wouldSay(0, 300);
        desk.wouldFail(1);
        desk.fairest();
        desk.bestSlot(1);
        desk.whyStuck(0);
        desk.helpers(2);
        Check.same("the desk behind questions", Check.state(desk), before);
        Check.same("questions are no changes", desk.undo(), 1);
    }
}
