/** Promises 1 to 4, 35 and 36: a new object, texts that are read and written. */
public final class TextTest {
    private static final String HEAD = "desk 2;process a:;";

    public static void main(String[] args) {
        newObject();
        appending();
        loading();
        tokens();
        syntaxErrors();
        valueErrors();
        unknownAndTwice();
        tooMany();
        errorPositions();
        writing();
        writtenBytes();
        Check.end();
    }

    private static void error(String text, int code, int position) {
        StackDesk desk = new StackDesk();
        Check.same("load of '" + text + "'", Check.load(desk, text), code);
        Check.same("errorPosition of '" + text + "'", desk.errorPosition(), position);
        Check.same("processes behind '" + text + "'", desk.count(1), 1);
        Check.same("slots behind '" + text + "'", desk.count(0), 1);
    }

    private static void fine(String text, int processes) {
        StackDesk desk = new StackDesk();
        Check.same("load of '" + text + "'", Check.load(desk, text), processes);
        Check.same("errorPosition of '" + text + "'", desk.errorPosition(), StackDesk.NONE);
        Check.same("processes of '" + text + "'", desk.count(1), processes);
    }

    private static void newObject() {
        StackDesk desk = new StackDesk();
        int[] counts = {1, 1, 0, 0, 1, 0, 0, 0, 0, 0, 0};
        for (int what = 0; what < counts.length; what++) {
            Check.same("count(" + what + ") of a new object", desk.count(what), counts[what]);
        }
        int[] numbers = {0, 0, 0, -1, 0, 3, 0, 0, 0, 0, 0};
        for (int what = 0; what < numbers.length; what++) {
            Check.same("process(0, " + what + ") of a new object", desk.process(0, what), numbers[what]);
        }
        Check.same("slot(0) of a new object", desk.slot(0), StackDesk.NONE);
        Check.same("errorPosition of a new object", desk.errorPosition(), StackDesk.NONE);
        Check.fails("undo of a new object", Check.STATE, () -> desk.undo());
        Check.fails("restore(0) of a new object", Check.STATE, () -> desk.restore(0));
        Check.fails("restore(1) of a new object", Check.STATE, () -> desk.restore(1));
        Check.fails("writtenByte(0) of a new object", Check.INDEX, () -> desk.writtenByte(0));
        Check.same("load of nothing", desk.load(), StackDesk.SYNTAX_ERROR);
        Check.same("errorPosition of nothing", desk.errorPosition(), 0);
        Check.same("append of a new object", new StackDesk().append(0x41000000, 0, 0, 0, 0), 1);
    }

    private static void appending() {
        StackDesk desk = new StackDesk();
        Check.same("append of no bytes", desk.append(0, 0, 0, 0, 0), 0);
        Check.same("append of 20 bytes", desk.append(0x20202020, 0x20202020, 0x20202020,
                0x20202020, 0x20202020), 20);
        Check.same("append with bytes left out", desk.append(0x00200020, 0x20000000, 0x00000020,
                0x00000000, 0x20202000), 27);
        Check.same("append of great bytes", desk.append(0xffffffff, 0x80808080, 0, 0, 0), 35);
        Check.same("load with a great byte", desk.load(), StackDesk.SYNTAX_ERROR);
        Check.same("position of a great byte", desk.errorPosition(), 27);
        Check.same("the buffer is empty then", desk.append(0x20000000, 0, 0, 0, 0), 1);
        order();
        full();
    }

    /** The bytes of an argument come from the highest one, the arguments in order. */
    private static void order() {
        StackDesk desk = new StackDesk();
        Check.same("append in order", desk.append(0x6465736b, 0x20003200, 0x3b70726f, 0x63657373,
                0x20613a3b), 18);
        Check.same("load in order", desk.load(), 1);
        Check.same("slots in order", desk.count(0), 2);
        Check.same("append in order", desk.append(0x6465736b, 0x3a000000, 0, 0, 0), 5);
        Check.same("load of desk:", desk.load(), StackDesk.SYNTAX_ERROR);
        Check.same("errorPosition of desk:", desk.errorPosition(), 4);
    }

    private static void full() {
        StackDesk desk = new StackDesk();
        Check.append(desk, " ".repeat(580) + HEAD);
        Check.same("append to 599", desk.append(0x20000000, 0, 0, 0, 0), 599);
        Check.fails("append to 601", Check.STATE, () -> desk.append(0x20000000, 0, 0, 0, 0x20));
        Check.same("append to 600", desk.append(0, 0, 0x00200000, 0, 0), 600);
        Check.fails("append to 601", Check.STATE, () -> desk.append(0, 0, 0, 0, 1));
        Check.fails("append of a to 601", Check.STATE, () -> desk.append(0x01000000, 0, 0, 0, 0));
        Check.fails("append of b to 601", Check.STATE, () -> desk.append(0, 0x00010000, 0, 0, 0));
        Check.fails("append of c to 601", Check.STATE, () -> desk.append(0, 0, 0x00000100, 0, 0));
        Check.fails("append of d to 601", Check.STATE, () -> desk.append(0, 0, 0, 0x00000001, 0));
        Check.same("append of nothing to 600", desk.append(0, 0, 0, 0, 0), 600);
        Check.same("load of 600 bytes", desk.load(), 1);
        Check.same("slots of 600 bytes", desk.count(0), 2);
        Check.same("append behind 600", desk.append(0x20202020, 0, 0, 0, 0), 4);
    }

    private static void loading() {
        StackDesk desk = Check.desk("desk 3;process a turn 2 may 2 0: push 4 say;process b:;"
                + "stack 2 with a -7;stack 3 at 1 1 2 3;");
        Check.same("slots", desk.count(0), 3);
        Check.same("stacks", desk.count(2), 2);
        Check.same("steps run", desk.run(10), 3);
        Check.same("load of an error", Check.load(desk, "desk 1;process c:"), StackDesk.SYNTAX_ERROR);
        Check.same("slots behind an error", desk.count(0), 3);
        Check.same("turns behind an error", desk.count(3), 3);
        Check.same("said behind an error", desk.said(0, 0), 4);
        Check.same("an error is no change", desk.undo(), 1);
        desk.run(10);
        Check.same("load anew", Check.load(desk, HEAD), 1);
        int[] counts = {2, 1, 0, 0, 1, 0, 0, 0, 0, 0, 0};
        for (int what = 0; what < counts.length; what++) {
            Check.same("count(" + what + ") behind load", desk.count(what), counts[what]);
        }
        int[] numbers = {0, 0, 0, -1, 0, 3, 0, 0, 0, 0, 0};
        for (int what = 0; what < numbers.length; what++) {
            Check.same("process(0, " + what + ") behind load", desk.process(0, what), numbers[what]);
        }
        Check.same("said behind load", desk.said(0, 0), StackDesk.NOTHING);
        Check.same("slot(1) behind load", desk.slot(1), StackDesk.NONE);
        Check.same("undo of load", desk.undo(), 2);
        Check.same("said behind undo of load", desk.said(0, 0), 4);
        Check.same("the buffer is empty", desk.append(0x20000000, 0, 0, 0, 0), 1);
    }

    private static void tokens() {
        fine("desk1;process a:;", 1);
        fine("  desk  0004 ;  process  a  :  ;   ", 1);
        fine("desk 1;process desk:;process process:;process turn:;process may:;process push:;", 5);
        fine("desk 4;process turn turn 9may 3 2 1 0:push-5push 5pop dup flip;", 1);
        fine("desk 1;process abcdefgh:push - 000999999;stack 16with abcdefgh-0 - 1 0000000001;", 1);
        fine("desk 1;process a:;process b:;process c:;process d:;process e:;process f:;process g:;"
                + "process h:;", 8);
        fine("desk 1;process a:jump 24 zero 0 jump 024;", 1);
        fine("desk 1;process azz:;process zaaz:;stack 1 with azz;", 2);
        StackDesk desk = Check.desk("desk 1;process a:push - 7;stack 3 with a - 5 -00006 0;");
        Check.same("push - 7", desk.command(0, 0, 1), -7);
        Check.same("numbers", Check.written(desk), "-5,-6,0@a");
    }

    private static void syntaxErrors() {
        error("", -2, 0);
        error("   ", -2, 3);
        error("des 1;", -2, 0);
        error("deskk 1;", -2, 0);
        error("Desk 1;", -2, 0);
        error("desk", -2, 4);
        error("desk  ", -2, 6);
        error("desk ;", -2, 5);
        error("desk -1;", -2, 5);
        error("desk 1", -2, 6);
        error("desk 1:", -2, 6);
        error("desk 1;", -2, 7);
        error("desk 1; stack 1 at 0;", -2, 8);
        error("desk 1;\nprocess a:;", -2, 7);
        error("desk 1;processa:;", -2, 7);
        error("desk 1;process 1:;", -2, 15);
        error("desk 1;process abcdefghi:;", -2, 15);
        error("desk 1;process a;", -2, 16);
        error("desk 1;process a turn:;", -2, 21);
        error("desk 1;process a turn -1:;", -2, 22);
        error("desk 1;process a may:;", -2, 20);
        error("desk 1;process a may 0 turn 1:;", -2, 23);
        error("desk 1;process a1:;", -2, 16);
        error("desk 1;process a:", -2, 17);
        error("desk 1;process a:foo;", -2, 17);
        error("desk 1;process a:pushpop;", -2, 17);
        error("desk 1;process a:push;", -2, 21);
        error("desk 1;process a:push --1;", -2, 23);
        error("desk 1;process a:push -;", -2, 23);
        error("desk 1;process a:pop 1;", -2, 21);
        error("desk 1;process a:jump -1;", -2, 22);
        error("desk 1;process a:lay;", -2, 20);
        error("desk 1;process a:;x", -2, 18);
        error("desk 1;process a:;;", -2, 18);
        error("desk 1;process a:;stack", -2, 23);
        error("desk 1;process a:;stack 1", -2, 25);
        error("desk 1;process a:;stack 1 on 0;", -2, 26);
        error("desk 1;process a:;stack 1 with;", -2, 30);
        error("desk 1;process a:;stack 1 with abcdefghi;", -2, 31);
        error("desk 1;process a:;stack 1 at;", -2, 28);
        error("desk 1;process a:;stack 1 at 0", -2, 30);
        error("desk 1;process a:;stack 1 at 0 -", -2, 32);
        error("desk 1;process a:;stack 1 at 0;process b:;", -2, 31);
        error("desk 1;process a:;stack 1 at 0;desk 1;", -2, 31);
        error("desk 1;process a:;stack 2 at 0 1,2;", -2, 32);
    }

    private static void valueErrors() {
        error("desk 0;", -3, 5);
        error("desk 5x", -3, 5);
        error("desk 99999999999999999999;", -3, 5);
        error("desk 4294967297;", -3, 5);
        error("desk 1;process a turn 0:;", -3, 22);
        error("desk 1;process a turn 10:;", -3, 22);
        error("desk 2;process a may 0 2:;", -3, 23);
        error("desk 4;process a may 4:;", -3, 21);
        error("desk 1;process a:push 1000000;", -3, 22);
        error("desk 1;process a:push -1000000;", -3, 23);
        error("desk 1;process a:push - 1000000;", -3, 24);
        error("desk 1;process a:lay 1;", -3, 21);
        error("desk 1;process a:take 1;", -3, 22);
        error("desk 3;process a:swap 3;", -3, 22);
        error("desk 1;process a:jump 25;", -3, 22);
        error("desk 1;process a:zero 25;", -3, 22);
        error("desk 1;process a:;stack 0 at 0;", -3, 24);
        error("desk 1;process a:;stack 17 at 0;", -3, 24);
        error("desk 1;process a:;stack 1 at 1;", -3, 29);
        error("desk 1;process a:;stack 1 at 0 1000000;", -3, 31);
        error("desk 1;process a:;stack 1 at 0 -1000000;", -3, 32);
        error("desk 1;process a:push 1000000 foo", -3, 22);
    }

    private static void unknownAndTwice() {
        error("desk 1;process a:;stack 1 with b;", -4, 31);
        error("desk 1;process a:;stack 1 with aa;", -4, 31);
        error("desk 1;process a:;process b:;process a:;", -5, 37);
        error("desk 2;process a may 0 1 0:;", -5, 25);
        error("desk 2;process a may 01 001:;", -5, 24);
        error("desk 1;process a:;stack 1 with a;stack 1 with a;", -5, 46);
        error("desk 2;process a:;stack 1 at 1;stack 1 at 1;", -5, 42);
        error("desk 2;process a:;stack 1 at 1;stack 1 at 2;", -3, 42);
        fine("desk 2;process a may 0 1:;process b may 0 1:;stack 1 at 1;stack 1 with b;"
                + "stack 1 at 0;stack 1 with a;", 2);
    }

    private static void tooMany() {
        String eight = "desk 4;process a:;process b:;process c:;process d:;process e:;process f:;"
                + "process g:;process h:;";
        fine(eight, 8);
        error(eight + "process a:;", -6, eight.length());
        error(eight + "  process", -6, eight.length() + 2);
        error(eight + "processx", -2, eight.length());
        String twelve = eight + "stack 1 at 0;stack 1 at 1;stack 1 at 2;stack 1 at 3;"
                + "stack 1 with a;stack 1 with b;stack 1 with c;stack 1 with d;stack 1 with e;"
                + "stack 1 with f;stack 1 with g;stack 1 with h;";
        fine(twelve, 8);
        error(twelve + "stack 1 at 0;", -6, twelve.length());
        error(twelve + " stack", -6, twelve.length() + 1);
        String full = "desk 1;process a:" + "pop ".repeat(24);
        fine(full + ";", 1);
        error(full + "halt;", -6, full.length());
        error(full + "push x", -6, full.length());
        error(full + "foo;", -2, full.length());
        fine("desk 1;process a:;stack 2 at 0 1 2;", 1);
        error("desk 1;process a:;stack 2 at 0 1 2 3;", -6, 35);
        error("desk 1;process a:;stack 2 at 0 1 2 -3;", -6, 35);
        error("desk 1;process a:;stack 2 at 0 1 2 9999999;", -6, 35);
        error("desk 1;process a:;stack 2 at 0 1 2 -;", -6, 35);
        error("desk 1;process a:;stack 2 at 0 1 9999999 3;", -3, 33);
    }

    private static void errorPositions() {
        StackDesk desk = new StackDesk();
        Check.load(desk, "desk 7;");
        Check.same("position of the first error", desk.errorPosition(), 5);
        Check.append(desk, HEAD);
        Check.same("position stays until load", desk.errorPosition(), 5);
        desk.load();
        Check.same("position behind a fine text", desk.errorPosition(), StackDesk.NONE);
        Check.load(desk, "desk 1;process a");
        Check.same("position of an end", desk.errorPosition(), 16);
        desk.undo();
        Check.same("position behind undo", desk.errorPosition(), 16);
    }

    private static void writing() {
        StackDesk desk = Check.desk(HEAD);
        Check.same("writeStacks without stacks", desk.writeStacks(), 0);
        desk = Check.desk("desk 4;process abcdefgh may 3:lay 3;process b:;"
                + "stack 4 with abcdefgh 10 -200 999999 -999999;stack 1 at 2;stack 2 with b 0;"
                + "stack 3 at 0 100000 90 -1;");
        Check.same("writeStacks", Check.written(desk),
                "10,-200,999999,-999999@abcdefgh #2 0@b 100000,90,-1#0");
        desk.run(1);
        Check.same("what was written stays", desk.writtenByte(22), '@');
        Check.same("writeStacks behind lay", Check.written(desk),
                "10,-200,999999,-999999#3 #2 0@b 100000,90,-1#0");
        StringBuilder text = new StringBuilder("desk 1;process abcdefgh:;stack 16 with abcdefgh");
        StringBuilder due = new StringBuilder();
        for (int i = 0; i < 16; i++) {
            text.append(" -").append(999999 - i);
            due.append(i == 0 ? "" : ",").append('-').append(999999 - i);
        }
        text.append(';');
        desk = Check.desk(text.toString());
        Check.same("writeStacks of a full stack", Check.written(desk), due.append("@abcdefgh").toString());
        fullDesk();
    }

    /** All stacks full of the longest numbers. */
    private static void fullDesk() {
        StringBuilder text = new StringBuilder("desk 4;");
        for (int i = 0; i < 8; i++) {
            text.append("process ").append((char) ('a' + i)).append(":;");
        }
        for (int i = 0; i < 12; i++) {
            text.append("stack 16 ").append(i < 8 ? "with " + (char) ('a' + i) : "at " + (i - 8)).append(';');
        }
        StackDesk desk = Check.desk(text.toString());
        StringBuilder due = new StringBuilder();
        for (int i = 0; i < 12; i++) {
            due.append(i == 0 ? "" : " ");
            for (int k = 0; k < 16; k++) {
                desk.put(i, -999999);
                due.append(k == 0 ? "" : ",").append("-999999");
            }
            due.append(i < 8 ? "@" + (char) ('a' + i) : "#" + (i - 8));
        }
        Check.same("writeStacks of full stacks", Check.written(desk), due.toString());
    }

    private static void writtenBytes() {
        StackDesk desk = Check.desk("desk 1;process a:;stack 2 at 0 12;");
        Check.fails("writtenByte ahead of writeStacks", Check.INDEX, () -> desk.writtenByte(0));
        Check.same("writeStacks", desk.writeStacks(), 4);
        Check.same("writtenByte(0)", desk.writtenByte(0), '1');
        Check.same("writtenByte(1)", desk.writtenByte(1), '2');
        Check.same("writtenByte(2)", desk.writtenByte(2), '#');
        Check.same("writtenByte(3)", desk.writtenByte(3), '0');
        Check.fails("writtenByte(4)", Check.INDEX, () -> desk.writtenByte(4));
        Check.fails("writtenByte(-1)", Check.INDEX, () -> desk.writtenByte(-1));
        Check.fails("writtenByte(2000)", Check.INDEX, () -> desk.writtenByte(2000));
        desk.undo();
        Check.same("undo leaves the written text", desk.writtenByte(3), '0');
        Check.same("writeStacks of none", desk.writeStacks(), 0);
        Check.fails("writtenByte(0) of none", Check.INDEX, () -> desk.writtenByte(0));
    }
}
