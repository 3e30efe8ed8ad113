import java.util.function.ToLongFunction;

/** The edges of term 4 (texts) and of promises 2 (append), 3 (load), 4 (errorPosition), 35 and 36. */
public final class EdgeTextTest {
    /** A text with every token that the grammar has; 3 and 38 are names. */
    private static final String[] TOKENS = {"desk", "2", ";", "process", "a", "turn", "4", "may", "0", "1", ":",
        "push", "-", "5", "push", "6", "pop", "dup", "flip", "add", "sub", "mul", "say", "lay", "0", "take", "1",
        "swap", "0", "jump", "24", "zero", "0", "halt", ";", "process", "b", ":", ";",
        "stack", "2", "with", "a", "1", "-", "2", ";", "stack", "1", "at", "1", ";"};
    private static final String[] WORDS = {"desk", "process", "turn", "may", "stack", "with", "at", "push", "pop",
        "dup", "flip", "add", "sub", "mul", "say", "lay", "take", "swap", "jump", "zero", "halt"};
    private static final String HEAD = "desk 1;process a:;";

    public static void main(String[] args) {
        prefixes();
        wrongBytes();
        wrongKinds();
        wordsThatAreLike();
        missingTokens();
        spaces();
        ranges();
        slotRanges();
        valueRanges();
        zerosInFront();
        names();
        firstError();
        firstCode();
        toldTwice();
        tooManyCommands();
        tooManyNumbers();
        appendOrder();
        appendLimit();
        appendRefusedWhole();
        loadKeepsAtError();
        loadReplaces();
        positions();
        writtenNumbers();
        writtenInPlace();
        Check.end();
    }

    private static void error(String text, int code, int position) {
        StackDesk desk = new StackDesk();
        Check.same("load of '" + text + "'", Check.load(desk, text), code);
        Check.same("errorPosition of '" + text + "'", desk.errorPosition(), position);
    }

    private static StackDesk fine(String text) {
        StackDesk desk = Check.desk(text);
        Check.same("errorPosition of '" + text + "'", desk.errorPosition(), StackDesk.NONE);
        return desk;
    }

    /** The tokens of the text, each with this in front of it. */
    private static String joined(String[] tokens, int count, String gap) {
        StringBuilder text = new StringBuilder();
        for (int i = 0; i < count; i++) {
            text.append(gap).append(tokens[i]);
        }
        return text.toString();
    }

    private static String[] with(int at, String token) {
        String[] tokens = TOKENS.clone();
        tokens[at] = token;
        return tokens;
    }

    /** "an unexpected end of the text (at the length of the text)". */
    private static void prefixes() {
        for (int count = 0; count <= TOKENS.length; count++) {
            String text = joined(TOKENS, count, " ");
            boolean whole = count > 3 && TOKENS[count - 1].equals(";");
            for (String end : new String[] {"", " ", "   "}) {
                if (whole) {
                    fine(text + end);
                } else {
                    error(text + end, -2, text.length() + end.length());
                }
            }
        }
    }

    /** "a byte or token that is not allowed here (at its first byte)", in place of each token and at the end. */
    private static void wrongBytes() {
        for (int i = 0; i <= TOKENS.length; i++) {
            int position = joined(TOKENS, i, "  ").length() + 2;
            String[] wrong = {"~", "A", "Desk", "\t", "\n", "\u0080", "\u00ff", "\u0001", ",", "+", "{", "`", "/", "@"};
            for (String token : wrong) {
                if (i < TOKENS.length) {
                    error(joined(with(i, token), TOKENS.length, "  "), -2, position);
                } else {
                    error(joined(TOKENS, i, "  ") + "  " + token, -2, position);
                }
            }
        }
        for (int one = 1; one < 256; one++) {
            if (one != ' ' && one != ';' && !(one >= 'a' && one <= 'z')) {
                error("desk 1;process a:pop " + (char) one, -2, 21);
            }
            if (one != ' ') {
                error(HEAD + (char) one, -2, 18);
            }
        }
    }

    /** A word, a number or a sign where another kind of token is due. */
    private static void wrongKinds() {
        for (int i = 0; i < TOKENS.length; i++) {
            int position = joined(TOKENS, i, " ").length() + 1;
            char first = TOKENS[i].charAt(0);
            String[] wrong = {"7", ";", ":", "-"};
            if (first >= '0' && first <= '9') {
                wrong = new String[] {"a", ":", "desk"};
            } else if (first == ';') {
                wrong = new String[] {":", "a", "desk"};
            } else if (first == ':') {
                wrong = new String[] {";", "-", "a"};
            } else if (first == '-') {
                wrong = new String[] {"a", ":", "pop"};
            }
            for (String token : wrong) {
                boolean endsProgram = token.equals(";") && i >= 11 && i < 34;
                boolean endsHead = token.equals(":") && (i == 5 || i == 7 || i == 9);
                if (!endsProgram && !endsHead) {
                    error(joined(with(i, token), TOKENS.length, " "), -2, position);
                }
            }
        }
    }

    /** "A word is the longest possible sequence": one letter more or less, or capitals, make another word. */
    private static void wordsThatAreLike() {
        for (int i = 0; i < TOKENS.length; i++) {
            String token = TOKENS[i];
            if (token.length() > 1 && token.charAt(0) >= 'a') {
                int position = joined(TOKENS, i, " ").length() + 1;
                String[] like = {token + "x", "x" + token, token + token, token.substring(1),
                    token.substring(0, token.length() - 1), token.toUpperCase()};
                for (String other : like) {
                    error(joined(with(i, other), TOKENS.length, " "), -2, position);
                }
            }
        }
        error("desk 1;process a:pushpop;", -2, 17);
        error("desk 1;process a:say pop say4;", -2, 28);
    }

    /** A token that lacks is told at the token behind it. */
    private static void missingTokens() {
        error("1;process a:;", -2, 0);
        error("desk process a:;", -2, 5);
        error("desk 1 process a:;", -2, 7);
        error("desk 1;a:;", -2, 7);
        error("desk 1;process:;", -2, 14);
        error("desk 1;process a turn may 0:;", -2, 22);
        error("desk 1;process a 3:;", -2, 17);
        error("desk 1;process a may turn 3:;", -2, 21);
        error("desk 1;process a may 0 turn 3:;", -2, 23);
        error("desk 1;process a turn 3 turn 3:;", -2, 24);
        error("desk 1;process a may 0 may 0:;", -2, 23);
        error("desk 1;process a turn 3 4:;", -2, 24);
        error("desk 1;process a pop;", -2, 17);
        error("desk 1;process a:pop process b:;", -2, 21);
        error("desk 1;process a:pop stack 1 at 0;", -2, 21);
        error("desk 1;process a:4;", -2, 17);
        error("desk 1;process a:halt 4;", -2, 22);
        error("desk 1;process a:jump zero 1;", -2, 22);
        error(HEAD + "stack with a;", -2, 24);
        error(HEAD + "stack 1 a;", -2, 26);
        error(HEAD + "stack 1 0;", -2, 26);
        error(HEAD + "stack 1;", -2, 25);
        error(HEAD + "stack 1 with 0;", -2, 31);
        error(HEAD + "stack 1 at a;", -2, 29);
        error(HEAD + "stack 1 with a at 0;", -2, 33);
        error(HEAD + "stack 2 with a 1 - ;", -2, 37);
        error(HEAD + "stack 1 with a stack 1 at 0;", -2, 33);
        error(HEAD + ";", -2, 18);
    }

    /** "Spaces (byte 32) may stand in front of every token and at the end of the text." */
    private static void spaces() {
        String due = Check.state(Check.desk(joined(TOKENS, TOKENS.length, " ")));
        Check.same("many spaces", Check.state(fine(joined(TOKENS, TOKENS.length, "    ") + "    ")), due);
        Check.same("no space that can lack", Check.state(fine("desk2;process a turn4may0 1:push-5push6pop dup "
                + "flip add sub mul say lay0take1swap0jump24zero0halt;process b:;stack2with a1-2;stack1at1;")), due);
        error("des k 1;process a:;", -2, 0);
        Check.same("1 2 are two numbers", fine(HEAD + "stack 2 at 0 1 2;").stack(0, 1), 2);
        Check.same("12 is one number", fine(HEAD + "stack 2 at 0 12;").stack(0, 1), 1);
        Check.same("1-2 are two numbers", fine(HEAD + "stack 2 at 0 1-2;").number(0, 0), -2);
        Check.same("- 2 is one number", fine(HEAD + "stack 2 at 0 -   2;").number(0, 0), -2);
    }

    /** Each number of the range is read, with zeros in front of it, too; one less or more is a VALUE_ERROR. */
    private static void range(String text, int least, int greatest, ToLongFunction<StackDesk> told, int sign) {
        int position = text.indexOf('%');
        for (int number : new int[] {least, least + (greatest - least) / 2, greatest}) {
            Check.same(text + " of " + number, told.applyAsLong(fine(text.replace("%", "" + number))), sign * number);
            Check.same(text + " of 000" + number, told.applyAsLong(fine(text.replace("%", "000" + number))),
                    sign * number);
        }
        String[] wrong = {"" + (greatest + 1), "00" + (greatest + 1), (greatest + 1) + "0000", "2147483648", "4294967296",
            "4294967297", "18446744073709551617", "99999999999999999999999999"};
        for (String number : wrong) {
            error(text.replace("%", number), -3, position);
        }
        if (least > 0) {
            error(text.replace("%", "" + (least - 1)), -3, position);
            error(text.replace("%", "000" + (least - 1)), -3, position);
        }
    }

    /** "the slots of the desk; a length of turns; .. K 0 to 24; of a stack its room". */
    private static void ranges() {
        range("desk %;process a:;", 1, 4, d -> d.count(0), 1);
        range("desk 1;process a turn %:;", 1, 9, d -> d.process(0, 5), 1);
        range("desk 1;process a turn % may 0:pop;", 1, 9, d -> d.process(0, 5), 1);
        range("desk 1;process a:pop jump %;", 0, 24, d -> d.command(0, 1, 1), 1);
        range("desk 1;process a:pop zero % pop;", 0, 24, d -> d.command(0, 1, 1), 1);
        range(HEAD + "stack % at 0;", 1, 16, d -> d.stack(0, 0), 1);
        range(HEAD + "stack % with a;", 1, 16, d -> d.stack(0, 0), 1);
    }

    /** "slots (0 to the number of slots minus 1)". */
    private static void slotRanges() {
        for (int slots = 1; slots <= 4; slots++) {
            String head = "desk " + slots + ";process a";
            range(head + " may %:;", 0, slots - 1, d -> Integer.numberOfTrailingZeros(d.process(0, 6)), 1);
            range(head + ":lay %;", 0, slots - 1, d -> d.command(0, 0, 1), 1);
            range(head + ":take %;", 0, slots - 1, d -> d.command(0, 0, 1), 1);
            range(head + ":swap %;", 0, slots - 1, d -> d.command(0, 0, 1), 1);
            range(head + ":;stack 1 at %;", 0, slots - 1, d -> d.stack(0, 3), 1);
        }
        error("desk 4;process a may 3 2 1 0 4:;", -3, 29);
    }

    /** "its numbers .. (V 0 to 999999 behind its sign)", at the first digit, behind the sign. */
    private static void valueRanges() {
        range("desk 1;process a:push %;", 0, 999999, d -> d.command(0, 0, 1), 1);
        range("desk 1;process a:push -%;", 0, 999999, d -> d.command(0, 0, 1), -1);
        range("desk 1;process a:push   -   %  pop;", 0, 999999, d -> d.command(0, 0, 1), -1);
        range(HEAD + "stack 3 at 0 1 %;", 0, 999999, d -> d.number(0, 0), 1);
        range(HEAD + "stack 3 at 0 1-%;", 0, 999999, d -> d.number(0, 0), -1);
        range(HEAD + "stack 3 at 0 - % 4;", 0, 999999, d -> d.number(0, 1), -1);
    }

    /** "zeros at its beginning do not matter", however many. */
    private static void zerosInFront() {
        String zeros = "0".repeat(500);
        Check.same("many zeros", fine("desk " + zeros + "3;process a:;").count(0), 3);
        Check.same("many zeros of push", fine("desk 1;process a:push -" + zeros + "999999;").command(0, 0, 1), -999999);
        error("desk " + zeros + ";process a:;", -3, 5);
        error("desk 1;process a:push " + zeros + "1000000;", -3, 22);
        error("desk 1" + zeros + ";process a:;", -3, 5);
    }

    /** "a NAME is any word of at most 8 letters (also one that the grammar has; a longer one is a SYNTAX_ERROR)". */
    private static void names() {
        for (String word : WORDS) {
            StackDesk desk = fine("desk 1;process " + word + ":;stack 1 with " + word + ";");
            Check.same("name " + word, Check.written(desk), "@" + word);
            desk = fine("desk 1;process " + word + " turn 2 may 0:;stack 1 with " + word + " 4;");
            Check.same("length of " + word, desk.process(0, 5), 2);
        }
        String letters = "abcdefghijklmnopqrstuvwxyz";
        for (int length = 1; length <= 20; length++) {
            for (int from = 0; from + length <= 26; from += 3) {
                String name = letters.substring(from, from + length);
                String text = "desk 1;process " + name + ":;stack 1 with " + name + ";";
                if (length <= 8) {
                    Check.same("name " + name, Check.written(fine(text)), "@" + name);
                } else {
                    error(text, -2, 15);
                    error(HEAD + "stack 1 with " + name + ";", -2, 31);
                }
            }
        }
        error("desk 1;process A:;", -2, 15);
        error("desk 1;process aB:;", -2, 16);
        StackDesk two = fine("desk 1;process zzzzzzza:;process zzzzzzzb:;process zzzzzzz:;stack 1 with zzzzzzzb;"
                + "stack 2 with zzzzzzz;stack 3 with zzzzzzza;");
        Check.same("names that are like", Check.written(two), "@zzzzzzzb @zzzzzzz @zzzzzzza");
        error("desk 1;process zzzzzzza:;stack 1 with zzzzzzzb;", -4, 38);
        error("desk 1;process zzzzzzza:;stack 1 with zzzzzzz;", -4, 38);
        error("desk 1;process ab:;stack 1 with ba;", -4, 32);
        error("desk 1;process a:;stack 1 with process;", -4, 31);
    }

    /** "Reading stops at the first error." */
    private static void firstError() {
        error("desk 5 process a:;", -3, 5);
        error("desk 1:process a turn 0:;", -2, 6);
        error("desk 1;process a turn 0:foo;", -3, 22);
        error("desk 1;process a:foo turn 0;", -2, 17);
        error("desk 1;process a:;process a:foo;", -5, 26);
        error("desk 1;process a:foo;process a:;", -2, 17);
        error("desk 1;process a may 0 0 1:;", -5, 23);
        error("desk 1;process a may 1 1:;", -3, 21);
        error(HEAD + "stack 1 with b 5 6;", -4, 31);
        error(HEAD + "stack 17 with b;", -3, 24);
        error(HEAD + "stack 1 at 0 1 2;stack 1 at 0;", -6, 33);
        error(HEAD + "stack 1 at 0;stack 1 at 0 1 2;", -5, 42);
        error(HEAD + "stack 1 at 0 1000000 5;", -3, 31);
    }

    /** "If several error codes fit the same position, the first one in this list is reported". */
    private static void firstCode() {
        String eight = "desk 4;process a:;process b:;process c:;process d:;process e:;process f:;process g:;process h:;";
        // SYNTAX_ERROR ahead of UNKNOWN, TWICE and TOO_MANY.
        error(HEAD + "stack 1 with abcdefghi;", -2, 31);
        error("desk 1;process aaaaaaaaa:;process aaaaaaaaa:;", -2, 15);
        error("desk 1;process a:" + "pop ".repeat(24) + "push4;", -6, 113);
        error("desk 1;process a:" + "pop ".repeat(24) + "pusha 4;", -2, 113);
        error("desk 1;process a:" + "pop ".repeat(24) + "process", -2, 113);
        error("desk 1;process a:" + "pop ".repeat(24), -2, 113);
        error(eight + "proces i:;", -2, eight.length());
        // VALUE_ERROR ahead of TWICE: no slot out of range was told.
        error("desk 2;process a may 0 1 2:;", -3, 25);
        error(HEAD + "stack 1 at 0;stack 1 at 1;", -3, 42);
        // TOO_MANY before anything behind the word is read.
        for (String behind : new String[] {"", " a:;", " i:;", " 4", ";", " abcdefghi", " i turn 0:;"}) {
            error(eight + "process" + behind, -6, eight.length());
        }
        StringBuilder twelve = new StringBuilder(eight);
        for (int i = 0; i < 12; i++) {
            twelve.append("stack 1 ").append(i < 8 ? "with " + (char) ('a' + i) : "at " + (i - 8)).append(';');
        }
        fine(twelve.toString());
        for (String behind : new String[] {"", " 1 at 0;", " 0", " 17 at 9;", ";", " a", " 1 with q;"}) {
            error(twelve + "stack" + behind, -6, twelve.length());
        }
        error(twelve + "stac", -2, twelve.length());
    }

    /** TWICE, at the NAME or the number, for each process and slot. */
    private static void toldTwice() {
        StringBuilder text = new StringBuilder("desk 4;");
        for (int i = 0; i < 7; i++) {
            text.append("process n").append((char) ('a' + i)).append(" may 0 1 2 3:;");
            error(text + "process   n" + (char) ('a' + i) + " x", -5, text.length() + 10);
            error(text + "process na:;", -5, text.length() + 8);
            fine(text + "process x may 3 0 2 1:;");
        }
        for (int slot = 0; slot < 4; slot++) {
            error("desk 4;process a may 0 1 2 3 00" + slot + " 4", -5, 29);
            error("desk 4;process a:;stack 1 at " + slot + ";stack 1 at  0" + slot + " x", -5, 43);
        }
        StringBuilder held = new StringBuilder(text);
        for (int i = 0; i < 7; i++) {
            held.append("stack 1 with n").append((char) ('a' + i)).append(';');
            error(held + "stack 1 with n" + (char) ('a' + i) + " x", -5, held.length() + 13);
            error(held + "stack 1 with na;", -5, held.length() + 13);
        }
    }

    /** "a 25th command (at its word)", whichever it is; 24 are read. */
    private static void tooManyCommands() {
        String[] commands = {"push 1", "push -1", "pop", "dup", "flip", "add", "sub", "mul", "say", "lay 0", "take 0",
            "swap 0", "jump 1", "zero 1", "halt"};
        for (String command : commands) {
            String text = "desk 1;process a:" + (command + " ").repeat(24);
            Check.same("24 times " + command, fine(text + ";").process(0, 4), 24);
            error(text + command + ";", -6, text.length());
            String most = "desk 1;process a:" + "pop ".repeat(23) + command + "  ";
            Check.same("23 and " + command, fine(most + ";").process(0, 4), 24);
            error(most + "pop;", -6, most.length());
        }
        // Each process has 24 commands of its own.
        StackDesk desk = fine("desk 1;process a:" + "pop ".repeat(24) + ";process b:" + "dup ".repeat(24) + ";");
        Check.same("commands of a", desk.process(0, 4), 24);
        Check.same("commands of b", desk.process(1, 4), 24);
        Check.same("the last command of b", desk.command(1, 23, 0), 2);
    }

    /** "a number more than the room of the stack (at its first byte, .. whatever it is: ahead of VALUE_ERROR)". */
    private static void tooManyNumbers() {
        for (int room = 1; room <= 16; room++) {
            String text = HEAD + "stack " + room + " at 0" + " 7".repeat(room);
            Check.same("room " + room, fine(text + ";").stack(0, 1), room);
            for (String more : new String[] {"1", "-1", "- 1", "1000000", "-1000000", "-", "-;", "--1", "99999999999"}) {
                error(text + "  " + more + ";", -6, text.length() + 2);
            }
            error(HEAD + "stack " + room + " at 0" + " 7".repeat(room - 1) + " -1000000;", -3,
                    HEAD.length() + 8 + 5 + (room > 9 ? 1 : 0) + 2 * (room - 1) + 1);
            error(text + " x;", -2, text.length() + 1);
        }
    }

    /** "the four bytes of each argument in order, the most significant byte first; bytes that are 0 are left out". */
    private static void appendOrder() {
        String text = "desk 3;process ab:;;";
        for (int left = 0; left < 20; left++) {
            int[] fours = new int[5];
            for (int i = 0; i < 20; i++) {
                int one = i == left ? 0 : text.charAt(i);
                fours[i / 4] |= one << (24 - i % 4 * 8);
            }
            StackDesk desk = new StackDesk();
            Check.same("append without byte " + left,
                    desk.append(fours[0], fours[1], fours[2], fours[3], fours[4]), 19);
            String rest = text.substring(0, left) + text.substring(left + 1);
            StackDesk other = new StackDesk();
            for (int i = 0; i < 19; i++) {
                Check.same("append of one byte", other.append(0, 0, rest.charAt(i), 0, 0), i + 1);
            }
            Check.same("load without byte " + left, desk.load(), other.load());
            Check.same("position without byte " + left, desk.errorPosition(), other.errorPosition());
        }
        StackDesk desk = new StackDesk();
        Check.same("20 bytes", desk.append(0x6465736b, 0x20333b70, 0x726f6365, 0x73732061, 0x623a3b3b), 20);
        Check.same("load of 20 bytes", desk.load(), StackDesk.SYNTAX_ERROR);
        Check.same("position in 20 bytes", desk.errorPosition(), 19);
    }

    /** "IllegalStateException if the length would exceed 600": bytes that are 0 do not count. */
    private static void appendLimit() {
        for (int left = 0; left <= 20; left++) {
            StackDesk desk = new StackDesk();
            Check.append(desk, HEAD + " ".repeat(600 - left - HEAD.length()));
            int[] fits = fours(left);
            Check.same("length with room for " + left, desk.append(0, 0, 0, 0, 0), 600 - left);
            if (left < 20) {
                int[] more = fours(left + 1);
                Check.fails("one byte more than " + left, Check.STATE,
                        () -> desk.append(more[0], more[1], more[2], more[3], more[4]));
                Check.fails("20 bytes for " + left, Check.STATE,
                        () -> desk.append(0x20202020, 0x20202020, 0x20202020, 0x20202020, 0x20202020));
            }
            Check.same("length behind refusals", desk.append(0, 0, 0, 0, 0), 600 - left);
            Check.same("append to 600", desk.append(fits[0], fits[1], fits[2], fits[3], fits[4]), 600);
            Check.fails("append to 601", Check.STATE, () -> desk.append(0, 0, 0, 0, 0x20));
            Check.same("load of 600", desk.load(), 1);
            Check.same("the buffer is empty then", desk.append(0, 0, 0, 0, 0), 0);
        }
    }

    /** Five arguments with so many spaces at their end. */
    private static int[] fours(int count) {
        int[] fours = new int[5];
        for (int i = 20 - count; i < 20; i++) {
            fours[i / 4] |= ' ' << (24 - i % 4 * 8);
        }
        return fours;
    }

    /** An append that throws adds none of its bytes; the text of exactly 600 bytes is read to its end. */
    private static void appendRefusedWhole() {
        StackDesk desk = new StackDesk();
        String head = "desk 2;process a:" + " ".repeat(580);
        Check.append(desk, head);
        Check.fails("append of ;xxx", Check.STATE, () -> desk.append(0x3b787878, 0, 0, 0, 0));
        Check.same("append of ;", desk.append(0x3b000000, 0, 0, 0, 0), 598);
        Check.same("append of two bytes", desk.append(0, 0x20200000, 0, 0, 0), 600);
        Check.same("load", desk.load(), 1);
        Check.same("slots", desk.count(0), 2);
        error(" ".repeat(600), -2, 600);
        error(" ".repeat(599) + "d", -2, 599);
        error(HEAD + " ".repeat(581) + "9", -2, 599);
        error("desk 1;process a:" + " ".repeat(583), -2, 600);
        String numbers = HEAD + "stack 16 at 0" + " ".repeat(557);
        Check.same("a number at the end of 600", fine(numbers + " -999999 45;").number(0, 0), 45);
        error(numbers + " -999999 456", -2, 600);
        error("desk 1;process a:" + " ".repeat(579) + "halt", -2, 600);
    }

    /** "in case of an error the present one stays. The buffer is empty afterwards in both cases." */
    private static void loadKeepsAtError() {
        StackDesk desk = Check.desk("desk 3;process a turn 2 may 0:push 1 say lay 0;process b may 0:take 0 say;"
                + "stack 3 with a 5;stack 2 at 2 9;");
        desk.run(3);
        String before = Check.state(desk);
        String text = joined(TOKENS, TOKENS.length, " ");
        String[] wrong = {"", "x", text + "x", text + "stack 17", text + "stack 1 with c;", text + "stack 1 at 1;",
            text + "stack 1 at 0 1 2;", text.replace("24", "25")};
        int[] codes = {-2, -2, -2, -3, -4, -5, -6, -3};
        for (int i = 0; i < wrong.length; i++) {
            Check.same("load of '" + wrong[i] + "'", Check.load(desk, wrong[i]), codes[i]);
            Check.same("the desk behind '" + wrong[i] + "'", Check.state(desk), before);
            Check.same("the buffer behind '" + wrong[i] + "'", desk.append(0, 0, 0, 0, 0), 0);
        }
        Check.same("errors are no changes", desk.undo(), 1);
        Check.same("load of the text", Check.load(desk, text), 2);
        Check.same("the buffer behind the text", desk.append(0, 0, 0, 0, 0), 0);
        Check.same("the desk of the text", Check.state(desk), Check.state(Check.desk(text)));
    }

    /** "it replaces the present one (nothing was done or said, the trace is empty)", whatever was there before. */
    private static void loadReplaces() {
        String[] texts = {
            "desk 4;process a turn 9 may 0 1 2 3:push 1 say push 2 lay 3;process b turn 8:jump 0;process c:pop;"
                    + "stack 9 with a 1 2 3;stack 8 with b 4;stack 7 at 0 5 6;stack 6 at 2 7;",
            "desk 2;process c may 1:take 1;process d:;stack 2 with d;stack 3 at 1 8;",
            "desk 1;process z:;stack 1 at 0;",
            "desk 3;process q:pop;process r:dup dup;process s:;stack 5 with s;stack 4 at 2;stack 3 with q;",
            "desk 1;process a:;"};
        StackDesk desk = new StackDesk();
        for (int i = 0; i < 20; i++) {
            String text = texts[i * 3 % texts.length];
            Check.load(desk, text);
            StackDesk fresh = Check.desk(text);
            Check.same("the desk of " + text, Check.state(desk), Check.state(fresh));
            Check.same("the stacks of " + text, Check.written(desk), Check.written(fresh));
            desk.run(1 + i);
            fresh.run(1 + i);
            Check.same("the desk of " + text + " then", Check.state(desk), Check.state(fresh));
            if (i % 4 == 3) {
                Check.load(desk, "desk 4;process a may 0 1:pop dup;process b:;stack 16 with a 1 2 3 4;stack 4 at 3 5;x");
            }
        }
        StackDesk round = Check.desk("desk 1;process a:jump 0;process b:jump 0;");
        round.run(1);
        Check.load(round, "desk 1;process a:jump 0;process b:jump 0;");
        Check.same("the first turn behind load", round.count(9), 0);
    }

    /** "the position of the error that the latest call of load found .. NONE if it found no error". */
    private static void positions() {
        StackDesk desk = new StackDesk();
        Check.same("no call", desk.errorPosition(), StackDesk.NONE);
        Check.same("load of nothing", desk.load(), -2);
        Check.same("position 0", desk.errorPosition(), 0);
        Check.load(desk, HEAD + "   foo");
        Check.same("position 21", desk.errorPosition(), 21);
        desk.run(1);
        desk.save(0);
        desk.restore(0);
        desk.undo();
        Check.append(desk, HEAD);
        Check.same("position stays", desk.errorPosition(), 21);
        desk.load();
        Check.same("no error", desk.errorPosition(), StackDesk.NONE);
        Check.load(desk, "desk 1;");
        desk.undo();
        Check.same("position behind undo of a fine text", desk.errorPosition(), 7);
        Check.load(desk, HEAD);
        desk.undo();
        Check.same("none behind undo of a fine text", desk.errorPosition(), StackDesk.NONE);
    }

    /** Numbers of each length, with and without a sign, 0 without one. */
    private static void writtenNumbers() {
        int[] numbers = {0, 1, 9, 10, 11, 19, 90, 99, 100, 101, 109, 110, 999, 1000, 1001, 9999, 10000, 10010, 99999,
            100000, 100001, 123456, 909090, 999998, 999999};
        for (int number : numbers) {
            StackDesk desk = Check.desk(HEAD + "stack 2 at 0;");
            desk.put(0, number);
            Check.same("number " + number, Check.written(desk), number + "#0");
            desk.put(0, -number);
            Check.same("number -" + number, Check.written(desk), number + "," + -number + "#0");
            Check.same("length with " + number, desk.writeStacks(), (number + "," + -number + "#0").length());
        }
        for (int slot = 0; slot < 4; slot++) {
            StackDesk desk = Check.desk("desk 4;process a:;stack 1 at " + slot + ";");
            Check.same("an empty stack on " + slot, Check.written(desk), "#" + slot);
        }
        StackDesk desk = Check.desk("desk 2;process a:;process b:;stack 1 with b;stack 1 at 1;stack 2 at 0 0 -0;"
                + "stack 1 with a;");
        Check.same("empty ones", Check.written(desk), "@b #1 0,0#0 @a");
        desk.kill(1);
        Check.same("an ended one holds it", Check.written(desk), "@b #1 0,0#0 @a");
    }

    /** "in place of what was written before"; a byte behind its end does not exist. */
    private static void writtenInPlace() {
        StackDesk desk = Check.desk(HEAD + "stack 2 at 0 12345;");
        Check.outside("writtenByte ahead of all", 0, desk::writtenByte);
        Check.same("writeStacks", desk.writeStacks(), 7);
        Check.outside("writtenByte of 7", 7, desk::writtenByte);
        desk.put(0, 678);
        Check.outside("writtenByte of 7 behind put", 7, desk::writtenByte);
        Check.same("writeStacks behind put", desk.writeStacks(), 11);
        Check.outside("writtenByte of 11", 11, desk::writtenByte);
        Check.load(desk, HEAD + "stack 1 at 0;");
        Check.same("byte 10 behind load", desk.writtenByte(10), '0');
        Check.same("writeStacks of a short one", desk.writeStacks(), 2);
        Check.outside("writtenByte of 2", 2, desk::writtenByte);
        Check.load(desk, HEAD);
        desk.save(0);
        desk.restore(0);
        Check.same("byte 1 behind restore", desk.writtenByte(1), '0');
        Check.same("writeStacks of none", desk.writeStacks(), 0);
        Check.outside("writtenByte of none", 0, desk::writtenByte);
    }
}
