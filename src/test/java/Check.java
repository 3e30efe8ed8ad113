/** What all tests need: answers against the due ones, and desks from texts. */
final class Check {
    static final String INDEX = "IndexOutOfBoundsException";
    static final String ARGUMENT = "IllegalArgumentException";
    static final String STATE = "IllegalStateException";

    private static int wrong = 0;

    /** A call of the class that is expected to throw. */
    interface Call {
        void make();
    }

    private Check() {
    }

    static void same(String what, long got, long due) {
        if (got != due) {
            wrong++;
            System.out.println(what + " answered " + got + ", due is " + due);
        }
    }

    static void same(String what, String got, String due) {
        if (!got.equals(due)) {
            wrong++;
            System.out.println(what + " answered '" + got + "', due is '" + due + "'");
        }
    }

    static void sameDouble(String what, double got, double due) {
        if (got != due) {
            wrong++;
            System.out.println(what + " answered " + got + ", due is " + due);
        }
    }

    /** The call has to throw exactly the exception of this name. */
    static void fails(String what, String due, Call call) {
        String got = "nothing";
        try {
            call.make();
        } catch (RuntimeException e) {
            got = e.getClass().getSimpleName();
        }
        if (!got.equals(due)) {
            wrong++;
            System.out.println(what + " threw " + got + ", due is " + due);
        }
    }

    /** Ends the program, with 1 if an answer was wrong. */
    static void end() {
        System.exit(wrong == 0 ? 0 : 1);
    }

    /** Appends a text of any length, 20 bytes a call. */
    static void append(StackDesk desk, String text) {
        for (int i = 0; i < text.length(); i += 20) {
            desk.append(four(text, i), four(text, i + 4), four(text, i + 8),
                    four(text, i + 12), four(text, i + 16));
        }
    }

    private static int four(String text, int from) {
        int four = 0;
        for (int i = from; i < from + 4; i++) {
            four = four << 8 | (i < text.length() ? text.charAt(i) & 255 : 0);
        }
        return four;
    }

    static int load(StackDesk desk, String text) {
        append(desk, text);
        return desk.load();
    }

    /** A new object with the desk of a text that has no error. */
    static StackDesk desk(String text) {
        StackDesk desk = new StackDesk();
        int answer = load(desk, text);
        if (answer < 1) {
            wrong++;
            System.out.println("load of '" + text + "' answered " + answer
                    + " at " + desk.errorPosition());
        }
        return desk;
    }

    /** What writeStacks writes. */
    static String written(StackDesk desk) {
        int length = desk.writeStacks();
        StringBuilder text = new StringBuilder();
        for (int i = 0; i < length; i++) {
            text.append((char) desk.writtenByte(i));
        }
        return text.toString();
    }

    /** The state of a process: state, fault, place. */
    static void stands(String what, StackDesk desk, int process, int state, int fault, int place) {
        same(what + ": state", desk.process(process, 0), state);
        same(what + ": fault", desk.process(process, 1), fault);
        same(what + ": place", desk.process(process, 2), place);
    }

    /** An entry of the trace. */
    static void traced(String what, StackDesk desk, int back, int turn, int process,
            int command, int result) {
        same(what + ": turn in the trace", desk.trace(back, 0), turn);
        same(what + ": process in the trace", desk.trace(back, 1), process);
        same(what + ": command in the trace", desk.trace(back, 2), command);
        same(what + ": result in the trace", desk.trace(back, 3), result);
    }
}
