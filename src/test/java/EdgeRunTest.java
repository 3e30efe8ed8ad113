/** The edges of terms 2 (steps) and 3 (turns) and of promises 20 (turnsLeft) to 25 (run). */
public final class EdgeRunTest {
    /** Not a fault, but blocked. */
    private static final int WAIT = -1;
    /** The command, then what comes of it with: no stack, and one of room 2 with 0, 1 and 2 numbers. */
    private static final Object[][] WORK = {
        {"push 7", 1, 0, 0, 5}, {"pop", 1, 4, 0, 0}, {"dup", 1, 4, 0, 5}, {"flip", 1, 4, 4, 0}, {"add", 1, 4, 4, 0},
        {"sub", 1, 4, 4, 0}, {"mul", 1, 4, 4, 0}, {"say", 1, 4, 0, 0}, {"zero 1", 1, 4, 0, 0}, {"jump 1", 0, 0, 0, 0},
        {"halt", 0, 0, 0, 0}};
    /** The command, then the same for: none on the slot, one there, and both without permission. */
    private static final Object[][] MOVES = {
        {"lay 1", 1, 0, 1, WAIT, 1, 2, 1, 2}, {"take 1", WAIT, 3, 0, 3, 2, 2, 2, 2},
        {"swap 1", 1, WAIT, 1, 0, 1, 2, 1, 2}};
    private static final String JUMPS = "jump 1 jump 2 jump 3 jump 4 jump 5 jump 6 jump 7 jump 8 jump 9 jump 10 ";

    public static void main(String[] args) {
        leastFaults();
        faultsOfMoves();
        results();
        laterFaults();
        fullestStack();
        endOfFullProgram();
        jumpsAndZeros();
        lengthsOfTurns();
        noWaitBehindTurn();
        turnsWithoutStep();
        roundOfEight();
        runsUntil();
        runLimits();
        turnsLeft();
        wouldSay();
        wouldFail();
        fairest();
        bestSlot();
        Check.end();
    }

    /** "the process is faulty with the least fault that fits, and nothing else changes (its place stays)". */
    private static void comesOf(String text, int due) {
        StackDesk desk = Check.desk(text);
        String stacks = Check.written(desk);
        int held = desk.process(0, 3);
        desk.run(1);
        Check.same(text + ": turns", desk.count(3), 1);
        Check.same(text + ": steps", desk.process(0, 8), due == WAIT ? 0 : 1);
        Check.same(text + ": waits", desk.process(0, 9), due == WAIT ? 1 : 0);
        Check.same(text + ": trace", desk.count(8), 1);
        Check.traced(text, desk, 0, 0, 0, 0, due == WAIT ? 1 : due == 0 ? 0 : 10 + due);
        if (due == 0) {
            Check.same(text + ": fault", desk.process(0, 1), 0);
            Check.same(text + ": state", desk.process(0, 0), text.contains("halt") ? 1 : 0);
            Check.same(text + ": place", desk.process(0, 2), text.contains("halt") ? 0 : 1);
            return;
        }
        Check.stands(text, desk, 0, due == WAIT ? 0 : 2, due == WAIT ? 0 : due, 0);
        Check.same(text + ": stacks", Check.written(desk), stacks);
        Check.same(text + ": hand", desk.process(0, 3), held);
        Check.same(text + ": said", desk.process(0, 10), 0);
        for (int k = 0; k < desk.count(2); k++) {
            Check.same(text + ": moves of " + k, desk.stack(k, 4), 0);
        }
    }

    private static void leastFaults() {
        String[] stacks = {"", "stack 2 with a;", "stack 2 with a 3;", "stack 2 with a 3 2;"};
        for (Object[] row : WORK) {
            for (int i = 0; i < 4; i++) {
                String end = " turn 1:" + row[0] + ";process z:jump 0;";
                comesOf("desk 2;process a" + end + stacks[i], (Integer) row[1 + i]);
                // What lies on the slots does not matter.
                comesOf("desk 2;process a turn 1 may 0 1:" + row[0] + ";process z:jump 0;" + stacks[i]
                        + "stack 2 at 1 4 5;", (Integer) row[1 + i]);
            }
        }
    }

    private static void faultsOfMoves() {
        for (Object[] row : MOVES) {
            for (int i = 0; i < 8; i++) {
                String may = i < 4 ? " may 1" : " may 0";
                String text = "desk 2;process a turn 1" + may + ":" + row[0] + ";process z:jump 0;"
                        + (i % 2 == 0 ? "" : "stack 2 with a 3 2;") + (i / 2 % 2 == 0 ? "" : "stack 2 at 1 4;");
                comesOf(text, (Integer) row[1 + i]);
                comesOf(text + "stack 1 at 0;", (Integer) row[1 + i]);
                if (i >= 4) {
                    comesOf(text.replace(may, ""), (Integer) row[1 + i]);
                }
            }
        }
    }

    private static void result(String command, int lower, int top, long result) {
        String text = "desk 1;process a turn 1:" + command + ";process z:jump 0;stack 9 with a 77 " + lower + " " + top + ";";
        boolean fine = result >= -999999 && result <= 999999;
        comesOf(text, fine ? 0 : 6);
        if (fine) {
            StackDesk desk = Check.desk(text);
            desk.run(1);
            Check.same(text, Check.written(desk), "77," + result + "@a");
        }
    }

    /** "6 the result is not -999999 to 999999". */
    private static void results() {
        int[] numbers = {-999999, -999998, -500000, -499999, -46341, -1001, -1000, -999, -1, 0, 1, 2, 3, 999, 1000, 1001,
            32768, 65536, 65537, 499999, 500000, 999998, 999999};
        for (int lower : numbers) {
            for (int top : numbers) {
                result("add", lower, top, (long) lower + top);
                result("sub", lower, top, (long) lower - top);
                result("mul", lower, top, (long) lower * top);
            }
        }
    }

    /** A fault ends the turn and stays; the process makes no steps any more. */
    private static void laterFaults() {
        StackDesk desk = Check.desk("desk 1;process a turn 9:pop pop pop pop;process b turn 1:jump 0;stack 4 with a 1 2;");
        desk.run(1);
        Check.stands("a", desk, 0, 2, 4, 2);
        Check.same("steps of a", desk.process(0, 8), 3);
        Check.traced("the fault of a", desk, 0, 0, 0, 2, 14);
        desk.put(0, 5);
        desk.run(5);
        Check.stands("a later", desk, 0, 2, 4, 2);
        Check.same("steps of a later", desk.process(0, 8), 3);
        Check.same("turns of a later", desk.process(0, 7), 1);
        Check.same("turns of b", desk.process(1, 7), 5);
        Check.same("fault of one that is ready", desk.process(1, 1), 0);
        desk.kill(1);
        Check.same("fault of one that is ended", desk.process(1, 1), 0);
    }

    /** A room of 16 takes 16 numbers, by push and by dup. */
    private static void fullestStack() {
        for (String command : new String[] {"push 4", "dup"}) {
            StackDesk desk = Check.desk("desk 1;process a turn 1:push 4 " + command + " jump 1;stack 16 with a;");
            desk.run(28);
            Check.same("numbers of " + command, desk.stack(0, 1), 15);
            desk.run(2);
            Check.same("numbers of " + command, desk.stack(0, 1), 16);
            Check.same("state of " + command, desk.process(0, 0), 0);
            Check.same("run of " + command, desk.run(9), 2);
            Check.stands(command + " without room", desk, 0, 2, 5, 1);
            Check.same("numbers of " + command, desk.stack(0, 1), 16);
        }
    }

    /** "carries out the command at its place; if there is none, it is ended (that is a step, too)". */
    private static void endOfFullProgram() {
        StringBuilder text = new StringBuilder("desk 1;process a turn 1:");
        for (int i = 1; i <= 24; i++) {
            text.append("jump ").append(i).append(' ');
        }
        StackDesk desk = Check.desk(text + ";");
        for (int i = 0; i < 24; i++) {
            Check.stands("a behind " + i, desk, 0, 0, 0, i);
            desk.run(1);
            Check.traced("command " + i, desk, 0, i, 0, i, 0);
        }
        Check.same("a is ready at 24", desk.process(0, 0), 0);
        Check.same("a has a turn left", desk.turnsLeft(), 1);
        Check.same("the end", desk.run(9), 1);
        Check.same("a is ended", desk.process(0, 0), 1);
        Check.same("steps of a", desk.process(0, 8), 25);
        Check.traced("the end", desk, 0, 24, 0, -1, 0);
        StackDesk none = Check.desk("desk 1;process a turn 9:;stack 1 with a;");
        Check.same("no command", none.run(9), 1);
        Check.same("one step", none.process(0, 8), 1);
        Check.same("it is ended", none.process(0, 0), 1);
        Check.traced("no command", none, 0, 0, 0, -1, 0);
    }

    /** "jump K: the place becomes K", also its own, one behind or far beyond; "zero K: .. if it was 0". */
    private static void jumpsAndZeros() {
        for (int to = 0; to <= 24; to++) {
            StackDesk desk = Check.desk("desk 1;process a turn 1:jump " + to + " halt;");
            desk.run(1);
            Check.stands("jump " + to, desk, 0, 0, 0, to);
            for (int top : new int[] {0, 1, -1, 999999, -999999}) {
                desk = Check.desk("desk 1;process a turn 1:zero " + to + " halt;stack 2 with a 5 " + top + ";");
                desk.run(1);
                Check.stands("zero " + to + " of " + top, desk, 0, 0, 0, top == 0 ? to : 1);
                Check.same("zero takes the top", Check.written(desk), "5@a");
            }
        }
        StackDesk minus = Check.desk("desk 1;process a turn 1:zero 9;stack 1 with a -0;");
        minus.run(1);
        Check.same("-0 is 0", minus.process(0, 2), 9);
    }

    /** "It makes steps until it has made as many as the length of its turns". */
    private static void lengthsOfTurns() {
        for (int length = 1; length <= 9; length++) {
            StackDesk desk = Check.desk("desk 1;process a turn " + length + ":" + JUMPS + ";process b:jump 0;");
            desk.run(1);
            Check.stands("a with " + length, desk, 0, 0, 0, length);
            Check.same("steps with " + length, desk.process(0, 8), length);
            Check.same("trace with " + length, desk.count(8), length);
            Check.traced("oldest step with " + length, desk, length - 1, 0, 0, 0, 0);
            desk.run(1);
            Check.same("steps of b", desk.process(1, 8), 3);
            desk.run(1);
            Check.same("turn of the second one", desk.trace(0, 0), 2);
            // 11 steps with the end.
            Check.same("steps of two turns", desk.process(0, 8), Math.min(11, 2 * length));
        }
        StackDesk set = Check.desk("desk 1;process a turn 2:jump 0;");
        set.run(1);
        set.setTurn(0, 7);
        set.run(1);
        Check.same("the length of now counts", set.process(0, 8), 9);
    }

    /** A turn that made all its steps does not wait, whatever is next; one step more would. */
    private static void noWaitBehindTurn() {
        String text = " may 0:jump 1 jump 2 take 0;process b:jump 0;";
        StackDesk desk = Check.desk("desk 1;process a turn 2" + text);
        desk.run(1);
        Check.same("no wait behind 2 steps", desk.process(0, 9), 0);
        Check.same("the trace has 2 steps", desk.count(8), 2);
        Check.same("it is stuck", desk.whyStuck(0), 2);
        desk = Check.desk("desk 1;process a turn 3" + text);
        desk.run(1);
        Check.same("a wait in the third step", desk.process(0, 9), 1);
        Check.same("steps", desk.process(0, 8), 2);
        Check.same("the trace has 2 steps and a wait", desk.count(8), 3);
        Check.traced("the wait", desk, 0, 0, 0, 2, 1);
        desk = Check.desk("desk 1;process a turn 9" + text);
        desk.run(1);
        Check.same("one wait a turn", desk.process(0, 9), 1);
    }

    /** "a turn without a step is one, too"; a blocked command is tried anew in the next turn. */
    private static void turnsWithoutStep() {
        StackDesk desk = Check.desk("desk 1;process a turn 4 may 0:take 0 push 1;process b turn 1 may 0:jump 1 jump 2 lay 0;"
                + "stack 1 with b;");
        Check.same("five turns", desk.run(5), 5);
        Check.same("turns of a", desk.process(0, 7), 3);
        Check.same("waits of a", desk.process(0, 9), 3);
        Check.same("steps of a", desk.process(0, 8), 0);
        Check.same("turns so far", desk.count(3), 5);
        Check.stands("a", desk, 0, 0, 0, 0);
        Check.same("two more", desk.run(2), 2);
        Check.same("turns of a", desk.process(0, 7), 4);
        Check.same("steps of a", desk.process(0, 8), 3);
        Check.same("a is ended", desk.process(0, 0), 1);
        Check.same("a took it", Check.written(desk), "1@a");
    }

    /** "by their numbers and round again": each of those that are ready has its turn. */
    private static void roundOfEight() {
        StringBuilder text = new StringBuilder("desk 1;");
        for (int i = 0; i < 8; i++) {
            text.append("process ").append((char) ('a' + i)).append(" turn 1:").append(i % 3 == 2 ? "halt;" : "jump 0;");
        }
        StackDesk desk = Check.desk(text.toString());
        int[] due = {0, 1, 2, 3, 4, 5, 6, 7, 0, 1, 3, 4, 6, 7, 0, 1, 3, 4, 6, 7, 0};
        for (int turn = 0; turn < due.length; turn++) {
            Check.same("next of turn " + turn, desk.count(9), due[turn]);
            Check.same("run", desk.run(1), 1);
            Check.same("process of turn " + turn, desk.trace(0, 1), due[turn]);
            Check.same("turn " + turn, desk.trace(0, 0), turn);
        }
        StackDesk first = Check.desk("desk 1;process a:jump 0;process b:jump 0;process c:jump 0;");
        first.kill(0);
        first.run(1);
        Check.same("the first turn is that of b", first.trace(0, 1), 1);
        first.wake(0);
        first.run(1);
        Check.same("then c", first.trace(0, 1), 2);
        first.run(1);
        Check.same("then a", first.trace(0, 1), 0);
    }

    /** "until n are made, no process is ready, or the desk is stuck", looked at before each turn. */
    private static void runsUntil() {
        StackDesk desk = Check.desk("desk 1;process a turn 1:jump 1 halt;process b turn 1:halt;");
        Check.same("run until none is ready", desk.run(300), 3);
        Check.same("run when none is ready", desk.run(300), 0);
        Check.same("turns so far", desk.count(3), 3);
        StackDesk stuck = Check.desk("desk 1;process a may 0:take 0;process b may 0:jump 1 take 0;");
        Check.same("run until stuck", stuck.run(300), 2);
        Check.same("waits of a", stuck.process(0, 9), 1);
        Check.same("waits of b", stuck.process(1, 9), 1);
        Check.same("run of a stuck desk", stuck.run(300), 0);
        Check.same("no wait of a stuck desk", stuck.process(0, 9), 1);
        Check.same("no entry of a stuck desk", stuck.count(8), 3);
        Check.same("no turn of a stuck desk", stuck.count(3), 2);
        StackDesk faulty = Check.desk("desk 1;process a:take 0;process b may 0:take 0;");
        Check.same("run until only a stuck one is ready", faulty.run(300), 1);
        Check.same("the turn of b did not come", faulty.process(1, 7), 0);
        // The last one that is not stuck gets stuck within its turn.
        StackDesk last = Check.desk("desk 1;process a may 0:take 0;process b turn 1 may 0:jump 1 take 0;");
        Check.same("run", last.run(300), 2);
        Check.same("stuck behind its step", last.process(1, 9), 0);
    }

    private static void runLimits() {
        StackDesk desk = Check.desk("desk 1;process a turn 9:jump 0;");
        Check.outOfRange("run", 1, 300, desk::run);
        Check.same("turns of run(1) and run(300)", desk.count(3), 301);
        Check.same("steps of 301 turns", desk.count(7), 301 * 9);
        for (int turns = 1; turns <= 300; turns += 23) {
            Check.same("run(" + turns + ")", desk.run(turns), turns);
        }
        StackDesk two = Check.desk("desk 1;process a:;process b:;");
        Check.same("run(1) of two", two.run(1), 1);
        Check.same("run(300) of one", two.run(300), 1);
    }

    /** A process that is ended in its turn number turns: 3 to begin, 5 each round of its countdown. */
    private static StackDesk countdown(int turns, String last) {
        return Check.desk(countdownText(turns, last));
    }

    private static String countdownText(int turns, String last) {
        int rounds = (turns - 4) / 5;
        int more = (turns - 4) % 5;
        StringBuilder text = new StringBuilder("desk 1;process a turn 1:");
        for (int i = 1; i <= more; i++) {
            text.append("jump ").append(i).append(' ');
        }
        text.append("dup zero ").append(more + 6).append(" push 1 sub jump ").append(more).append(" halt pop ");
        return text + last + ";stack 4 with a " + rounds + ";";
    }

    /** "at most 300; NONE if it takes more"; 0 if it is so already. */
    private static void turnsLeft() {
        for (int turns = 294; turns <= 308; turns++) {
            StackDesk desk = countdown(turns, "halt");
            Check.same("turnsLeft of " + turns, desk.turnsLeft(), turns <= 300 ? turns : StackDesk.NONE);
            Check.same("turns of " + turns, desk.run(300) + (turns > 300 ? desk.run(300) : 0), turns);
            Check.same("turnsLeft of none", desk.turnsLeft(), 0);
        }
        for (int turns = 298; turns <= 302; turns++) {
            StackDesk fault = countdown(turns, "pop");
            Check.same("turnsLeft till a fault in " + turns, fault.turnsLeft(), turns <= 300 ? turns : StackDesk.NONE);
            StackDesk stuck = countdown(turns + 1, "lay 0");
            stuck.allow(0, 0, true);
            Check.same("turnsLeft till the end behind " + turns, stuck.turnsLeft(), turns <= 298 ? turns + 2 : StackDesk.NONE);
            stuck = Check.desk(countdownText(turns + 1, "lay 0").replace("turn 1", "turn 1 may 0") + "stack 1 at 0;");
            Check.same("turnsLeft till stuck behind " + turns, stuck.turnsLeft(), turns <= 300 ? turns : StackDesk.NONE);
        }
    }

    /** "turns: 0 to 300"; each turn counts, also when it was said already. */
    private static void wouldSay() {
        StackDesk desk = Check.desk("desk 1;process a turn 4:dup say push 1 add jump 0;process b turn 1:jump 0;"
                + "stack 3 with a 0;");
        Check.outOfRange("wouldSay", 0, 300, turns -> desk.wouldSay(0, turns));
        Check.outOfRange("wouldSay of b", 0, 300, turns -> desk.wouldSay(1, turns));
        StackDesk same = Check.desk("desk 1;process a turn 4:dup say push 1 add jump 0;process b turn 1:jump 0;"
                + "stack 3 with a 0;");
        for (int turns = 0; turns <= 300; turns++) {
            Check.same("wouldSay behind " + turns, desk.wouldSay(0, turns), same.said(0, 0));
            same.run(1);
        }
        desk.run(3);
        Check.same("wouldSay behind 0 of what was said", desk.wouldSay(0, 0), desk.said(0, 0));
        Check.same("wouldSay of b", desk.wouldSay(1, 300), StackDesk.NOTHING);
        StackDesk once = Check.desk("desk 1;process a turn 2:say;stack 1 with a -1;");
        Check.same("wouldSay when it ends ahead", once.wouldSay(0, 300), -1);
        once.run(1);
        Check.same("wouldSay when it is ended", once.wouldSay(0, 300), -1);
        Check.same("how many were said", once.process(0, 10), 1);
    }

    /** "the fault that a process would have behind 300 turns": each fault, in time or too late. */
    private static void wouldFail() {
        for (Object[] row : WORK) {
            String[] stacks = {"", "stack 2 with a;", "stack 2 with a 3;", "stack 2 with a 3 2;"};
            for (int i = 0; i < 4; i++) {
                StackDesk desk = Check.desk("desk 1;process a:" + row[0] + ";process b:jump 0;" + stacks[i]);
                Check.same("wouldFail of " + row[0] + stacks[i], desk.wouldFail(0), (Integer) row[1 + i]);
                Check.same("wouldFail of b", desk.wouldFail(1), 0);
            }
        }
        Check.same("wouldFail of take", Check.desk("desk 1;process a:take 0;").wouldFail(0), 2);
        Check.same("wouldFail of mul", Check.desk("desk 1;process a:mul;stack 2 with a 1000 1000;").wouldFail(0), 6);
        for (int turns = 298; turns <= 302; turns++) {
            StackDesk desk = countdown(turns, "pop");
            Check.same("wouldFail in turn " + turns, desk.wouldFail(0), turns <= 300 ? 4 : 0);
            desk.run(turns - 290);
            Check.same("wouldFail in turn 290", desk.wouldFail(0), 4);
        }
        StackDesk woken = Check.desk("desk 1;process a:pop;stack 1 with a;");
        woken.run(1);
        Check.same("wouldFail of a faulty one", woken.wouldFail(0), 4);
        woken.put(0, 1);
        Check.same("wouldFail of one that stays faulty", woken.wouldFail(0), 4);
        woken.wake(0);
        Check.same("wouldFail of a woken one", woken.wouldFail(0), 0);
    }

    /** "if all processes had it and 60 turns were run now", each length looked at, of several the least. */
    private static void fairest() {
        // a is ended and ahead of b, which makes 60 times the length.
        for (int ahead = 30; ahead <= 600; ahead += 15) {
            StackDesk desk = Check.desk("desk 1;process a turn 9:jump 0;process b turn 3:jump 0;");
            desk.kill(1);
            desk.run(ahead / 9 + 1);
            desk.kill(0);
            desk.wake(1);
            int made = desk.process(0, 8);
            int due = 1;
            for (int length = 2; length <= 9; length++) {
                if (Math.abs(made - 60 * length) < Math.abs(made - 60 * due)) {
                    due = length;
                }
            }
            Check.same("fairest behind " + made, desk.fairest(), due);
            Check.same("lengths stay", desk.process(1, 5), 3);
        }
        StackDesk even = Check.desk("desk 1;process a turn 9:jump 0;process b turn 2:jump 0;process c turn 5:jump 0;");
        Check.same("fairest of three rounds", even.fairest(), 1);
        StackDesk over = Check.desk("desk 1;process a:halt;process b:halt;");
        over.run(2);
        Check.same("fairest when none is ready", over.fairest(), 1);
        Check.same("fairest of a stuck desk", Check.desk("desk 1;process a turn 4 may 0:take 0;").fairest(), 1);
    }

    /** "of the slots that it may not use that one .. only if more would be ended than as it is". */
    private static void bestSlot() {
        for (int slot = 0; slot < 4; slot++) {
            StackDesk desk = Check.desk("desk 4;process a:take " + slot + ";process b:jump 0;stack 1 at 0;stack 1 at 1;"
                    + "stack 1 at 2;stack 1 at 3;");
            String before = Check.state(desk);
            Check.same("bestSlot with take " + slot, desk.bestSlot(0), slot);
            Check.same("bestSlot of b", desk.bestSlot(1), StackDesk.NONE);
            Check.same("the desk behind bestSlot", Check.state(desk), before);
            for (int other = 0; other < 4; other++) {
                desk.allow(0, other, other != slot);
            }
            Check.same("bestSlot with the others", desk.bestSlot(0), slot);
            desk.allow(0, slot, true);
            Check.same("bestSlot with all", desk.bestSlot(0), StackDesk.NONE);
        }
        // As many are ended as it is: a instead of b.
        StackDesk even = Check.desk("desk 2;process a:take 0;process b may 0:take 0 halt;process c:jump 0;stack 1 at 0;");
        Check.same("bestSlot with as many", even.bestSlot(0), StackDesk.NONE);
        // A faulty one is not ended; ended is only who gets there.
        StackDesk fault = Check.desk("desk 2;process a:take 1 pop;process b:jump 0;stack 1 at 1;");
        Check.same("bestSlot that leads to another fault", fault.bestSlot(0), StackDesk.NONE);
        for (int turns = 298; turns <= 302; turns++) {
            StackDesk desk = countdown(turns, "lay 0 halt");
            // lay 0 comes in turn number turns, the end one turn later.
            Check.same("bestSlot with the end in " + (turns + 1), desk.bestSlot(0), turns + 1 <= 300 ? 0 : StackDesk.NONE);
        }
        StackDesk ended = Check.desk("desk 1;process a:halt;process b:jump 0;stack 1 at 0;");
        ended.run(1);
        Check.same("bestSlot of an ended one", ended.bestSlot(0), StackDesk.NONE);
    }
}
