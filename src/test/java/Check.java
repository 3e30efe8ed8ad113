import java.util.function.IntConsumer;

/** What all tests need: answers against the due ones, and desks from texts. */
final class Check {
    static final String INDEX = "IndexOutOfBoundsException";
    static final String ARGUMENT = "IllegalArgumentException";
    static final String STATE = "IllegalStateException";

    private static int wrong = 0;

    /** A call of the class that is expected to throw. */
    interface Call {
        void make();
    }

    private Check() {
    }

    static void same(String what, long got, long due) {
        if (got != due) {
            wrong++;
            System.out.println(what + " answered " + got + ", due is " + due);
        }
    }

    static void same(String what, String got, String due) {
        if (!got.equals(due)) {
            wrong++;
            System.out.println(what + " answered '" + got + "', due is '" + due + "'");
        }
    }

    static void sameDouble(String what, double got, double due) {
        if (got != due) {
            wrong++;
            System.out.println(what + " answered " + got + ", due is " + due);
        }
    }

    /** The call has to throw exactly the exception of this name. */
    static void fails(String what, String due, Call call) {
        String got = "nothing";
        try {
            call.make();
        } catch (RuntimeException e) {
            got = e.getClass().getSimpleName();
        }
        if (!got.equals(due)) {
            wrong++;
            System.out.println(what + " threw " + got + ", due is " + due);
        }
    }

    /** The call throws an IndexOutOfBoundsException for each number that is not 0 to below the bound. */
    static void outside(String what, int bound, IntConsumer call) {
        int[] numbers = {-1, -2, Integer.MIN_VALUE, Integer.MIN_VALUE + 1, bound, bound + 1, bound + 2,
            bound + 7, 8, 12, 16, 24, 32, 33, 40, 41, 255, 256, 65536, Integer.MAX_VALUE - 1, Integer.MAX_VALUE};
        for (int number : numbers) {
            if (number < 0 || number >= bound) {
                fails(what + " of number " + number, INDEX, () -> call.accept(number));
            }
        }
        for (int number = 0; number < bound; number++) {
            call.accept(number);
        }
    }

    /** The call throws an IllegalArgumentException for each number that is not least to greatest. */
    static void outOfRange(String what, int least, int greatest, IntConsumer call) {
        int[] numbers = {Integer.MIN_VALUE, Integer.MIN_VALUE + 1, -greatest, least - 1, least - 2,
            greatest + 1, greatest + 2, Integer.MAX_VALUE - 1, Integer.MAX_VALUE};
        for (int number : numbers) {
            if (number < least || number > greatest) {
                fails(what + " with " + number, ARGUMENT, () -> call.accept(number));
            }
        }
        call.accept(least);
        call.accept(greatest);
    }

    /** Ends the program, with 1 if an answer was wrong. */
    static void end() {
        System.exit(wrong == 0 ? 0 : 1);
    }

    /** Appends a text of any length, 20 bytes a call. */
    static void append(StackDesk desk, String text) {
        for (int i = 0; i < text.length(); i += 20) {
            desk.append(four(text, i), four(text, i + 4), four(text, i + 8),
                    four(text, i + 12), four(text, i + 16));
        }
    }

    private static int four(String text, int from) {
        int four = 0;
        for (int i = from; i < from + 4; i++) {
            four = four << 8 | (i < text.length() ? text.charAt(i) & 255 : 0);
        }
        return four;
    }

    static int load(StackDesk desk, String text) {
        append(desk, text);
        return desk.load();
    }

    /** A new object with the desk of a text that has no error. */
    static StackDesk desk(String text) {
        StackDesk desk = new StackDesk();
        int answer = load(desk, text);
        if (answer < 1) {
            wrong++;
            System.out.println("load of '" + text + "' answered " + answer
                    + " at " + desk.errorPosition());
        }
        return desk;
    }

    /** What writeStacks writes. */
    static String written(StackDesk desk) {
        int length = desk.writeStacks();
        StringBuilder text = new StringBuilder();
        for (int i = 0; i < length; i++) {
            text.append((char) desk.writtenByte(i));
        }
        return text.toString();
    }

    /** All that can be asked of a desk, but for what undo does not bring back. */
    static String state(StackDesk desk) {
        StringBuilder text = new StringBuilder();
        for (int what = 0; what <= 10; what++) {
            text.append(' ').append(desk.count(what));
        }
        for (int k = 0; k < desk.count(1); k++) {
            for (int what = 0; what <= 10; what++) {
                text.append(' ').append(desk.process(k, what));
            }
            for (int c = 0; c < desk.process(k, 4); c++) {
                text.append(' ').append(desk.command(k, c, 0)).append(' ').append(desk.command(k, c, 1));
            }
            for (int back = 0; back < 20; back++) {
                text.append(' ').append(desk.said(k, back));
            }
        }
        for (int k = 0; k < desk.count(2); k++) {
            for (int what = 0; what <= 4; what++) {
                text.append(' ').append(desk.stack(k, what));
            }
            for (int depth = 0; depth < 16; depth++) {
                text.append(' ').append(desk.number(k, depth));
            }
        }
        for (int slot = 0; slot < desk.count(0); slot++) {
            text.append(' ').append(desk.slot(slot));
        }
        for (int back = 0; back < desk.count(8); back++) {
            for (int what = 0; what <= 3; what++) {
                text.append(' ').append(desk.trace(back, what));
            }
        }
        return text.append(' ').append(desk.waitShare()).toString();
    }

    /** The state of a process: state, fault, place. */
    static void stands(String what, StackDesk desk, int process, int state, int fault, int place) {
        same(what + ": state", desk.process(process, 0), state);
        same(what + ": fault", desk.process(process, 1), fault);
        same(what + ": place", desk.process(process, 2), place);
    }

    /** An entry of the trace. */
    static void traced(String what, StackDesk desk, int back, int turn, int process,
            int command, int result) {
        same(what + ": turn in the trace", desk.trace(back, 0), turn);
        same(what + ": process in the trace", desk.trace(back, 1), process);
        same(what + ": command in the trace", desk.trace(back, 2), command);
        same(what + ": result in the trace", desk.trace(back, 3), result);
    }
}
