/** 'Programs and runs', the paragraph Program: a test for each sentence that names a boundary. */
public final class ProgramTest {
    private static final int MIN = Integer.MIN_VALUE;
    private static final int MAX = Integer.MAX_VALUE;
    private static final int[] NO_VARIABLES = {MIN, -8, -1, 8, 9, 32, MAX};
    private static final int[] NO_PROCEDURES = {MIN, -4, -1, 4, 5, 7, 8, 32, MAX};
    private static final int[] NUMBERS = {MIN, MIN + 1, -8, -1, 0, 1, 7, 8, 4096, MAX - 1, MAX};

    public static void main(String[] args) {
        Check.sentence("A program has at most `MAX_LINES` lines, numbered 1, 2, ... in the order added.",
                ProgramTest::atMostMaxLines);
        Check.sentence("There are `NUM_VARS` int variables V0..V7.", ProgramTest::eightVariables);
        Check.sentence("`K_SET a b`: Va = b. a in 0..7, b any int.", ProgramTest::setTakesItsRanges);
        Check.sentence("`K_OP a b c`: Va = Vb + c, with int addition that wraps around as Java int arithmetic does.",
                ProgramTest::opWrapsAround);
        Check.sentence("a, b in 0..7, c any int.", ProgramTest::opTakesItsRanges);
        Check.sentence("`K_IF a`: opens a block; its body runs once if Va != 0. a in 0..7.", ProgramTest::ifRunsOnce);
        Check.sentence("`K_WHILE a`: opens a block; its body repeats while Va != 0. a in 0..7.",
                ProgramTest::whileRepeats);
        Check.sentence("`K_END`: closes the innermost open IF, WHILE or PROC block.",
                ProgramTest::endClosesTheInnermost);
        Check.sentence("`K_PROC a`: opens the body of procedure a (top level only). a in 0..3.",
                ProgramTest::procAtTopLevel);
        Check.sentence("`K_CALL a`: calls procedure a. a in 0..3.", ProgramTest::callTakesItsRange);
        Check.sentence("`K_RET`: returns from the current procedure; at depth 0 ends the program.",
                ProgramTest::retReturnsOrEnds);
        Check.sentence("Operands that a kind does not list are ignored.", ProgramTest::otherOperandsAreIgnored);
        Check.sentence("The END of L is the END line that matches the block opened at line L.",
                ProgramTest::endOfABlockThatHoldsOthers);
        Check.sentence("A line HAS CODE if and only if it is not an END closing an IF.",
                ProgramTest::onlyIfEndsHaveNoCode);
        Check.end();
    }

    private static void refusesLine(int kind, int a, int b, int c) {
        LineProgramDbg x = new LineProgramDbg(1, 64);
        String call = "addLine(" + kind + ", " + a + ", " + b + ", " + c + ")";
        Check.due(call, x.addLine(kind, a, b, c), 0);
        Check.due("the questions after " + call, Look.now(x), Look.fresh(LineProgramDbg.S_EDITING, ""));
        Check.due("the number of the line after " + call, Program.add(x, "RET"), 1);
    }

    private static void atMostMaxLines() {
        LineProgramDbg x = new LineProgramDbg(1, 64);
        for (int line = 1; line <= 32; line++) {
            Check.due("addLine of line " + line, Program.add(x, "SET 0 " + 10 * line), line);
        }
        Check.due("addLine of line 33", Program.add(x, "SET 0 330"), 0);
        Check.due("addLine of line 33 again", Program.add(x, "SET 0 330"), 0);
        Check.due("compile()", x.compile(), 0);
        for (int line = 1; line <= 32; line++) {
            Run.pauses(x, "stepInto()", Run.STEP, line, 0, line);
            Check.due("variable(0) before line " + line, x.variable(0), 10 * (line - 1));
        }
        Run.finishes(x, "stepInto()", 32);
        Check.due("variable(0) at the end", x.variable(0), 320);
    }

    private static void eightVariables() {
        LineProgramDbg x = new LineProgramDbg(1, 64);
        for (int v = 0; v < 8; v++) {
            Check.due("addLine", Program.add(x, "SET " + v + " " + (100 + v)), v + 1);
        }
        Check.due("addLine of V8", Program.add(x, "SET 8 108"), 0);
        Check.due("compile()", x.compile(), 0);
        for (int done = 0; done < 8; done++) {
            x.stepInto();
            for (int v = 0; v < 8; v++) {
                Check.due("V" + v + " before line " + (done + 1), x.variable(v), v < done ? 100 + v : 0);
            }
        }
        Run.finishes(x, "cont()", 8);
        for (int v = 0; v < 8; v++) {
            Check.due("V" + v + " at the end", x.variable(v), 100 + v);
        }
    }

    private static void setTakesItsRanges() {
        for (int a = 0; a < 8; a++) {
            for (int b : NUMBERS) {
                LineProgramDbg x = Program.ready(1, 64, "SET " + a + " " + b);
                Run.finishes(x, "cont()", 1);
                Check.due("V" + a + " set to " + b, x.variable(a), b);
            }
        }
        for (int a : NO_VARIABLES) {
            refusesLine(LineProgramDbg.K_SET, a, 0, 0);
        }
    }

    private static void sum(int start, int c, int want) {
        LineProgramDbg x = Program.ready(1, 64, "SET 3 " + start + "; OP 5 3 " + c + "; OP 3 3 " + c);
        Run.finishes(x, "cont()", 3);
        Check.due(start + " + " + c + " in another variable", x.variable(5), want);
        Check.due(start + " + " + c + " in the same variable", x.variable(3), want);
    }

    private static void opWrapsAround() {
        sum(MAX, 1, MIN);
        sum(MAX, MAX, -2);
        sum(MIN, -1, MAX);
        sum(MIN, MIN, 0);
        sum(-1, MIN, MAX);
        sum(1, MAX, MIN);
        // The last sums that do not wrap around.
        sum(MAX - 1, 1, MAX);
        sum(MIN + 1, -1, MIN);
        sum(MAX, MIN, -1);
        sum(MIN, MAX, -1);
        sum(0, 0, 0);
    }

    private static void opTakesItsRanges() {
        for (int a = 0; a < 8; a++) {
            for (int b = 0; b < 8; b++) {
                LineProgramDbg x = Program.ready(1, 64, "SET " + b + " 40; OP " + a + " " + b + " 2");
                Run.finishes(x, "cont()", 2);
                Check.due("V" + a + " = V" + b + " + 2", x.variable(a), 42);
            }
        }
        for (int c : NUMBERS) {
            LineProgramDbg x = Program.ready(1, 64, "OP 7 0 " + c);
            Run.finishes(x, "cont()", 1);
            Check.due("V7 = V0 + " + c, x.variable(7), c);
        }
        for (int v : NO_VARIABLES) {
            refusesLine(LineProgramDbg.K_OP, v, 0, 0);
            refusesLine(LineProgramDbg.K_OP, 0, v, 0);
            refusesLine(LineProgramDbg.K_OP, v, v, 0);
        }
    }

    private static void ifRunsOnce() {
        for (int a = 0; a < 8; a++) {
            for (int value : NUMBERS) {
                int body = (a + 1) % 8;
                LineProgramDbg x = Program.ready(1, 64, "SET " + a + " " + value + "; IF " + a + "; OP " + body + " "
                        + body + " 1; END");
                Run.finishes(x, "cont()", value == 0 ? 2 : 3);
                Check.due("runs of the body of IF for " + value, x.variable(body), value == 0 ? 0 : 1);
            }
        }
        for (int a : NO_VARIABLES) {
            refusesLine(LineProgramDbg.K_IF, a, 0, 0);
        }
    }

    private static void whileRepeats() {
        for (int a = 0; a < 8; a++) {
            for (int value = -3; value <= 3; value++) {
                int body = (a + 1) % 8;
                int toward = value < 0 ? 1 : -1;
                int times = value < 0 ? -value : value;
                LineProgramDbg x = Program.ready(1, 64, "SET " + a + " " + value + "; WHILE " + a + "; OP " + body + " "
                        + body + " 1; OP " + a + " " + a + " " + toward + "; END");
                Run.finishes(x, "cont()", 2 + 4 * times);
                Check.due("runs of the body of WHILE for " + value, x.variable(body), times);
            }
        }
        for (int value : new int[] {MIN, MAX}) {
            LineProgramDbg x = Program.ready(1, 64, "SET 0 " + value + "; WHILE 0; SET 0 0; END");
            Run.finishes(x, "cont()", 5);
        }
        for (int a : NO_VARIABLES) {
            refusesLine(LineProgramDbg.K_WHILE, a, 0, 0);
        }
    }

    private static void code(LineProgramDbg x, String code) {
        Check.due("hasCode of every line", Look.now(x), Look.fresh(LineProgramDbg.S_READY, code));
    }

    private static void endClosesTheInnermost() {
        LineProgramDbg x = Program.ready(1, 64, "SET 0 1; WHILE 0; IF 0; WHILE 1; END; END; SET 0 0; END;"
                + " IF 2; WHILE 2; IF 2; END; END; END; PROC 0; IF 0; END; WHILE 0; END; END");
        code(x, "11111011111010110111");
        Run.whole(x, "1 2 3 4 7 8 2 9");
        // As deep as a program can nest: 16 blocks, of which each END closes its own.
        LineProgramDbg deep = Program.ready(1, 64, Program.times(8, "WHILE 0; IF 0") + "; " + Program.times(16, "END"));
        code(deep, "1".repeat(16) + "01".repeat(8));
        Run.whole(deep, "1");
    }

    private static void procAtTopLevel() {
        Check.due("PROC in IF", Program.edited(1, 64, "IF 0; PROC 0; END; END").compile(), 2);
        Check.due("PROC in WHILE", Program.edited(1, 64, "WHILE 0; PROC 0; END; END").compile(), 2);
        Check.due("PROC in PROC", Program.edited(1, 64, "PROC 1; PROC 0; END; END").compile(), 2);
        LineProgramDbg x = Program.ready(1, 64, "PROC 0; END; IF 0; END; PROC 1; END; WHILE 0; END; PROC 2; END;"
                + " CALL 2; PROC 3; END");
        Run.whole(x, "3 7 11 9/1 10/1");
        for (int a : NO_PROCEDURES) {
            refusesLine(LineProgramDbg.K_PROC, a, 0, 0);
        }
    }

    private static void callTakesItsRange() {
        for (int a = 0; a < 4; a++) {
            LineProgramDbg x = Program.ready(1, 64, "CALL " + a + "; RET; PROC 0; SET 0 10; END; PROC 1; SET 0 11; END;"
                    + " PROC 2; SET 0 12; END; PROC 3; SET 0 13; END");
            int proc = 3 + 3 * a;
            Run.whole(x, "1 " + proc + "/1 " + (proc + 1) + "/1 " + (proc + 2) + "/1 2");
            Check.due("what procedure " + a + " set", x.variable(0), 10 + a);
        }
        for (int a : NO_PROCEDURES) {
            refusesLine(LineProgramDbg.K_CALL, a, 0, 0);
        }
    }

    private static void retReturnsOrEnds() {
        Run.whole(Program.ready(1, 64, "RET; SET 0 1"), "1");
        Run.whole(Program.ready(1, 64, "SET 0 1; IF 0; RET; END; SET 0 2"), "1 2 3");
        Run.whole(Program.ready(1, 64, "SET 0 1; WHILE 0; RET; END; SET 0 2"), "1 2 3");
        Run.whole(Program.ready(1, 64, "CALL 0; RET; SET 0 1; PROC 0; RET; SET 0 2; END"), "1 4/1 5/1 2");
        // Out of blocks, and out of one procedure alone.
        Run.whole(Program.ready(2, 64, "CALL 0; SET 0 0; PROC 0; CALL 1; END; PROC 1; SET 0 1; WHILE 0; IF 0; RET;"
                + " END; END; END"), "1 3/1 4/1 6/2 7/2 8/2 9/2 10/2 5/1 2");
    }

    private static void otherOperandsAreIgnored() {
        for (int w : NUMBERS) {
            LineProgramDbg x = new LineProgramDbg(1, 64);
            Check.due("SET with c " + w, x.addLine(LineProgramDbg.K_SET, 0, 5, w), 1);
            Check.due("IF with b, c " + w, x.addLine(LineProgramDbg.K_IF, 0, w, w), 2);
            Check.due("WHILE with b, c " + w, x.addLine(LineProgramDbg.K_WHILE, 1, w, w), 3);
            Check.due("END with a, b, c " + w, x.addLine(LineProgramDbg.K_END, w, w, w), 4);
            Check.due("END with a, b, c " + w, x.addLine(LineProgramDbg.K_END, w, w, w), 5);
            Check.due("CALL with b, c " + w, x.addLine(LineProgramDbg.K_CALL, 0, w, w), 6);
            Check.due("RET with a, b, c " + w, x.addLine(LineProgramDbg.K_RET, w, w, w), 7);
            Check.due("PROC with b, c " + w, x.addLine(LineProgramDbg.K_PROC, 0, w, w), 8);
            Check.due("END with a, b, c " + w, x.addLine(LineProgramDbg.K_END, w, w, w), 9);
            Check.due("compile() with " + w, x.compile(), 0);
            Run.whole(x, "1 2 3 6 8/1 9/1 7");
            Check.due("V0", x.variable(0), 5);
        }
    }

    private static void endOfABlockThatHoldsOthers() {
        Run.whole(Program.ready(1, 64, "IF 0; IF 0; END; WHILE 0; END; END; SET 0 1"), "1 7");
        Run.whole(Program.ready(1, 64, "WHILE 0; IF 0; END; WHILE 0; END; END; SET 0 1"), "1 7");
        Run.whole(Program.ready(1, 64, "PROC 0; IF 0; END; WHILE 0; END; END; SET 0 1"), "7");
        Run.whole(Program.ready(1, 64, "IF 0; END"), "1");
        Run.whole(Program.ready(1, 64, "WHILE 0; END"), "1");
    }

    private static void onlyIfEndsHaveNoCode() {
        code(Program.ready(1, 64, "SET 0 0; OP 0 0 0; IF 0; END; WHILE 0; END; PROC 0; END; CALL 0; RET"), "1110111111");
        code(Program.ready(1, 64, "IF 0; IF 0; END; END"), "1100");
        code(Program.ready(1, 64, "RET"), "1");
        code(Program.ready(1, 64, ""), "");
        code(Program.ready(1, 64, Program.times(16, "IF 0; END")), "10".repeat(16));
        code(Program.ready(1, 64, Program.times(16, "WHILE 0; END")), "1".repeat(32));
    }
}
