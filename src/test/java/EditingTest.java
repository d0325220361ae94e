/** Promises 1, 2 and 3 (construction, adding a line, compiling): a test for each sentence that names a boundary. */
public final class EditingTest {
    private static final int MIN = Integer.MIN_VALUE;
    private static final int MAX = Integer.MAX_VALUE;
    private static final int[] NO_KINDS = {MIN, -1, 0, 9, 10, 32, MAX};
    private static final int[] NO_VARIABLES = {MIN, -1, 8, MAX};
    private static final int[] NO_PROCEDURES = {MIN, -1, 4, 7, MAX};
    private static final int[] NUMBERS = {MIN, -1, 0, 7, 8, 99, MAX};

    public static void main(String[] args) {
        construction();
        adding();
        compiling();
        Check.end();
    }

    private static void construction() {
        Check.sentence("`LineProgramDbg(maxDepth, budget)` accepts any int values.", EditingTest::acceptsAnyInts);
        Check.sentence("maxDepth is the greatest call depth, clamped to 1..8: a value below 1 becomes 1, a value above 8"
                + " becomes 8, others are kept.", EditingTest::clampsTheDepth);
        Check.sentence("budget is the most events one resuming call reaches, clamped to 1..4096 the same way.",
                EditingTest::clampsTheBudget);
        Check.sentence("The object starts in `S_EDITING` with no lines (count 0), no breakpoints and eventCount 0.",
                EditingTest::startsWithNothing);
        Check.sentence("At the start `state()` is `S_EDITING`, `eventCount()` is 0, every `variable(v)` is 0,"
                + " `currentLine()`, `depth()` and every `frameLine(k)` are 0, and every `hasCode(line)` is false.",
                EditingTest::answersNothingAtTheStart);
    }

    private static void adding() {
        Check.sentence("state is not `S_EDITING`;", EditingTest::addsOnlyWhileEditing);
        Check.sentence("count == `MAX_LINES`;", EditingTest::addsNoLine33);
        Check.sentence("kind is not one of `K_SET`..`K_RET`;", EditingTest::addsNoOtherKind);
        Check.sentence("an operand listed for the kind is outside its range (see Program).",
                EditingTest::addsNoOtherOperand);
        Check.sentence("If any condition holds, the call answers 0 and nothing changes.",
                EditingTest::refusesForSeveralReasons);
        Check.sentence("Otherwise the line becomes line count + 1 (so count grows by 1), and that line number is the"
                + " answer.", EditingTest::numbersTheLines);
        Check.sentence("Operands that the kind does not list are ignored and never cause a refusal;",
                EditingTest::otherOperandsNeverRefuse);
        Check.sentence("b of `K_SET` and c of `K_OP` may be any int.", EditingTest::numbersMayBeAny);
        Check.sentence("Adding a line does not change state, variables, breakpoints or eventCount.",
                EditingTest::addingChangesNothingElse);
        Check.sentence("Blocks need not be balanced while lines are added; that is examined by `compile`.",
                EditingTest::addsUnbalancedLines);
    }

    private static void compiling() {
        Check.sentence("If state is not `S_EDITING`, it answers -1 and nothing changes.",
                EditingTest::compilesOnlyWhileEditing);
        Check.sentence("Otherwise lines 1..count are considered in order, together with the blocks open at each point.",
                EditingTest::findsTheFirstOfSeveral);
        Check.sentence("an END with no open block;", EditingTest::findsTheEndTooMany);
        Check.sentence("a PROC while some block is open;", EditingTest::findsTheProcInABlock);
        Check.sentence("a PROC naming a procedure that an earlier PROC line named.", EditingTest::findsTheProcNamedTwice);
        Check.sentence("If there is no such line but a block is still open at the end, the answer is count + 1.",
                EditingTest::findsTheOpenBlock);
        Check.sentence("Otherwise, if some CALL names a procedure that no PROC line names, the answer is the least such"
                + " CALL line.", EditingTest::findsTheCallOfNone);
        Check.sentence("In all these cases nothing changes, state stays `S_EDITING`, and lines may still be added.",
                EditingTest::failingChangesNothing);
        Check.sentence("Otherwise the answer is 0, and state becomes `S_READY`: all variables 0, eventCount 0, no frames,"
                + " no breakpoints, no current event.", EditingTest::becomesReady);
        Check.sentence("A program with no lines compiles with answer 0.", EditingTest::compilesNoLines);
    }

    private static void acceptsAnyInts() {
        int[] ints = {MIN, MIN + 1, -1, 0, 1, 2, 8, 9, 4095, 4096, 4097, MAX - 1, MAX};
        for (int depth : ints) {
            for (int budget : ints) {
                LineProgramDbg x = Program.ready(depth, budget, "SET 0 1; CALL 0; RET; PROC 0; END");
                Run.whole(x, "1 2 4/1 5/1 3");
            }
        }
    }

    private static void clampsTheDepth() {
        int[][] pairs = {{MIN, 1}, {-8, 1}, {-1, 1}, {0, 1}, {1, 1}, {2, 2}, {3, 3}, {4, 4}, {5, 5}, {6, 6}, {7, 7},
            {8, 8}, {9, 8}, {16, 8}, {4096, 8}, {MAX, 8}};
        for (int[] pair : pairs) {
            LineProgramDbg x = Program.ready(pair[0], 4096, "CALL 0; PROC 0; CALL 0; END");
            Run.faults(x, "cont()", 3, pair[1], 1 + 2 * pair[1]);
        }
    }

    private static void clampsTheBudget() {
        int[][] pairs = {{MIN, 1}, {-4096, 1}, {-1, 1}, {0, 1}, {1, 1}, {2, 2}, {8, 8}, {9, 9}, {255, 255}, {256, 256},
            {4095, 4095}, {4096, 4096}, {4097, 4096}, {8192, 4096}, {MAX, 4096}};
        for (int[] pair : pairs) {
            LineProgramDbg x = Program.ready(1, pair[0], "SET 0 1; WHILE 0; END");
            Check.due("cont()", x.cont(), Run.LIMIT);
            Check.due("events of the first call, budget " + pair[0], x.eventCount(), pair[1]);
            Check.due("cont()", x.cont(), Run.LIMIT);
            Check.due("events of two calls, budget " + pair[0], x.eventCount(), 2 * pair[1]);
        }
    }

    private static void startsWithNothing() {
        LineProgramDbg x = new LineProgramDbg(1, 64);
        Check.due("state()", x.state(), LineProgramDbg.S_EDITING);
        Check.due("eventCount()", x.eventCount(), 0);
        Check.due("the number of the first line", Program.add(x, "SET 0 1"), 1);
        for (int line = 2; line <= 32; line++) {
            Program.add(x, "OP 0 0 1");
        }
        Check.due("compile()", x.compile(), 0);
        for (int line = 1; line <= 32; line++) {
            Check.due("clearBreakpoint(" + line + ")", x.clearBreakpoint(line), false);
        }
        Run.finishes(x, "cont()", 32);
        // No line at all: nothing is run.
        Run.finishes(Program.ready(1, 64, ""), "cont()", 0);
    }

    private static void answersNothingAtTheStart() {
        for (int depth : new int[] {MIN, 0, 1, 8, 9, MAX}) {
            for (int budget : new int[] {MIN, 0, 1, 4096, 4097, MAX}) {
                String start = Look.now(new LineProgramDbg(depth, budget));
                Check.due("the questions at the start", start, Look.fresh(LineProgramDbg.S_EDITING, ""));
            }
        }
    }

    private static void refusesLine(Stage stage, int kind, int a, int b, int c) {
        stage.unchangedBy("addLine(" + kind + ", " + a + ", " + b + ", " + c + ")", x -> x.addLine(kind, a, b, c), 0);
    }

    private static void addsOnlyWhileEditing() {
        for (Stage stage : Stage.compiled()) {
            for (int kind = LineProgramDbg.K_SET; kind <= LineProgramDbg.K_RET; kind++) {
                refusesLine(stage, kind, 0, 0, 0);
            }
        }
    }

    private static void addsNoLine33() {
        for (Stage stage : Stage.editing()) {
            if (stage.count() == LineProgramDbg.MAX_LINES) {
                for (int kind = LineProgramDbg.K_SET; kind <= LineProgramDbg.K_RET; kind++) {
                    refusesLine(stage, kind, 0, 0, 0);
                }
            }
        }
        LineProgramDbg x = Program.edited(1, 64, Program.times(31, "RET"));
        Check.due("addLine of line 32", Program.add(x, "RET"), 32);
        Check.due("addLine of line 33", Program.add(x, "RET"), 0);
    }

    private static void addsNoOtherKind() {
        for (Stage stage : Stage.editing()) {
            for (int kind : NO_KINDS) {
                refusesLine(stage, kind, 0, 0, 0);
            }
        }
        for (int kind = LineProgramDbg.K_SET; kind <= LineProgramDbg.K_RET; kind++) {
            Check.due("addLine of kind " + kind, new LineProgramDbg(1, 64).addLine(kind, 0, 0, 0), 1);
        }
    }

    private static void addsNoOtherOperand() {
        for (Stage stage : Stage.editing()) {
            for (int v : NO_VARIABLES) {
                refusesLine(stage, LineProgramDbg.K_SET, v, 0, 0);
                refusesLine(stage, LineProgramDbg.K_OP, v, 0, 0);
                refusesLine(stage, LineProgramDbg.K_OP, 0, v, 0);
                refusesLine(stage, LineProgramDbg.K_IF, v, 0, 0);
                refusesLine(stage, LineProgramDbg.K_WHILE, v, 0, 0);
            }
            for (int p : NO_PROCEDURES) {
                refusesLine(stage, LineProgramDbg.K_PROC, p, 0, 0);
                refusesLine(stage, LineProgramDbg.K_CALL, p, 0, 0);
            }
        }
        takesEveryOperandInRange();
    }

    private static void takesEveryOperandInRange() {
        for (int v = 0; v < 8; v++) {
            Program.edited(1, 64, "SET " + v + " 0; OP " + v + " 0 0; OP 0 " + v + " 0; IF " + v + "; WHILE " + v);
        }
        for (int p = 0; p < 4; p++) {
            Program.edited(1, 64, "PROC " + p + "; CALL " + p);
        }
    }

    private static void refusesForSeveralReasons() {
        for (Stage stage : Stage.all()) {
            boolean mayAdd = stage.state == LineProgramDbg.S_EDITING && stage.count() < LineProgramDbg.MAX_LINES;
            for (int kind : new int[] {MIN, 0, 9, MAX}) {
                refusesLine(stage, kind, -1, 8, 0);
                refusesLine(stage, kind, MIN, MAX, MIN);
            }
            refusesLine(stage, LineProgramDbg.K_OP, -1, 8, 0);
            refusesLine(stage, LineProgramDbg.K_CALL, 4, 0, 0);
            if (!mayAdd) {
                refusesLine(stage, LineProgramDbg.K_RET, 0, 0, 0);
                refusesLine(stage, LineProgramDbg.K_SET, 0, 0, 0);
            }
        }
    }

    private static void numbersTheLines() {
        LineProgramDbg x = new LineProgramDbg(1, 64);
        String[] kinds = {"SET 7 3", "OP 7 7 1", "IF 7", "WHILE 7", "END", "PROC 3", "CALL 3", "RET"};
        for (int line = 1; line <= 32; line++) {
            // A refused line takes no number.
            Check.due("a refused addLine", x.addLine(9, 0, 0, 0), 0);
            Check.due("a refused addLine", x.addLine(LineProgramDbg.K_SET, 8, 0, 0), 0);
            Check.due("addLine of line " + line, Program.add(x, kinds[line % 8]), line);
        }
    }

    private static void otherOperandsNeverRefuse() {
        for (int w : NUMBERS) {
            taken(LineProgramDbg.K_SET, 7, 0, w);
            taken(LineProgramDbg.K_IF, 7, w, w);
            taken(LineProgramDbg.K_WHILE, 7, w, w);
            taken(LineProgramDbg.K_END, w, w, w);
            taken(LineProgramDbg.K_PROC, 3, w, w);
            taken(LineProgramDbg.K_CALL, 3, w, w);
            taken(LineProgramDbg.K_RET, w, w, w);
        }
    }

    private static void numbersMayBeAny() {
        for (int w : NUMBERS) {
            taken(LineProgramDbg.K_SET, 0, w, 0);
            taken(LineProgramDbg.K_OP, 0, 0, w);
            LineProgramDbg x = Program.ready(1, 64, "SET 3 " + w + "; OP 4 5 " + w);
            Run.finishes(x, "cont()", 2);
            Check.due("V3 set to " + w, x.variable(3), w);
            Check.due("V4 = V5 + " + w, x.variable(4), w);
        }
    }

    private static void taken(int kind, int a, int b, int c) {
        LineProgramDbg x = new LineProgramDbg(1, 64);
        Check.due("addLine(" + kind + ", " + a + ", " + b + ", " + c + ")", x.addLine(kind, a, b, c), 1);
    }

    private static void addingChangesNothingElse() {
        LineProgramDbg x = new LineProgramDbg(1, 64);
        String before = Look.now(x);
        String[] kinds = {"SET 1 3", "OP 7 7 1", "IF 7", "WHILE 7", "END", "END", "CALL 3", "RET"};
        for (int line = 1; line <= 32; line++) {
            Check.due("addLine", Program.add(x, kinds[(line - 1) % 8]), line);
            Check.due("the questions after it", Look.now(x), before);
        }
        Check.due("addLine of PROC in a full program", Program.add(x, "PROC 3"), 0);
        LineProgramDbg y = Program.ready(1, 64, Program.times(32, "OP 0 0 1"));
        Run.finishes(y, "cont()", 32);
    }

    private static void addsUnbalancedLines() {
        Program.edited(1, 64, "END; END; IF 0; PROC 0; PROC 0; WHILE 0; CALL 3; PROC 1; END");
        Program.edited(1, 64, Program.times(32, "END"));
        Program.edited(1, 64, Program.times(32, "WHILE 0"));
        Program.edited(1, 64, Program.times(32, "PROC 0"));
        Check.due("compile() of an END alone", Program.edited(1, 64, "END").compile(), 1);
    }

    private static void compilesOnlyWhileEditing() {
        for (Stage stage : Stage.compiled()) {
            stage.unchangedBy("compile()", x -> x.compile(), -1);
        }
    }

    /** A failing compile, with nothing changed by it. */
    private static void wrongAt(int answer, String text) {
        LineProgramDbg x = Program.edited(4, 64, text);
        Check.due("compile() of " + text, x.compile(), answer);
        Check.due("the questions after it", Look.now(x), Look.fresh(LineProgramDbg.S_EDITING, ""));
        Check.due("what comes later", Look.later(x, true), Look.later(Program.edited(4, 64, text), true));
    }

    private static void findsTheFirstOfSeveral() {
        wrongAt(3, "PROC 2; END; PROC 2; END; END");
        wrongAt(3, "PROC 2; END; END; PROC 2; END");
        wrongAt(2, "IF 0; PROC 2; END; END; END");
        wrongAt(3, "IF 0; END; END; IF 0; PROC 0");
        wrongAt(1, "END; WHILE 0");
        wrongAt(2, "CALL 0; END");
        wrongAt(4, "PROC 0; CALL 3; END; PROC 0; END; END");
        wrongAt(5, "WHILE 0; IF 0; END; END; END; WHILE 0");
    }

    private static void findsTheEndTooMany() {
        wrongAt(1, "END");
        wrongAt(3, "IF 0; END; END");
        wrongAt(3, "WHILE 0; END; END");
        wrongAt(3, "PROC 0; END; END");
        wrongAt(4, "SET 0 0; IF 0; END; END; IF 0; END");
        wrongAt(32, Program.times(31, "RET") + "; END");
        Check.due("compile() of ENDs that all match", Program.edited(1, 64, Program.times(16, "IF 0") + "; "
                + Program.times(16, "END")).compile(), 0);
    }

    private static void findsTheProcInABlock() {
        wrongAt(2, "IF 0; PROC 0; END; END");
        wrongAt(2, "WHILE 0; PROC 0; END; END");
        wrongAt(2, "PROC 0; PROC 1; END; END");
        wrongAt(4, "IF 0; IF 0; END; PROC 0; END; END");
        wrongAt(32, Program.times(30, "RET") + "; IF 0; PROC 0");
        Check.due("compile() of PROCs after blocks", Program.edited(1, 64, "IF 0; END; PROC 0; END; WHILE 0; END; PROC 1;"
                + " END; PROC 2; END").compile(), 0);
    }

    private static void findsTheProcNamedTwice() {
        for (int p = 0; p < 4; p++) {
            wrongAt(3, "PROC " + p + "; END; PROC " + p + "; END");
            wrongAt(5, "PROC " + p + "; END; PROC " + (p + 1) % 4 + "; END; PROC " + p + "; END");
        }
        wrongAt(31, "PROC 3; END; " + Program.times(28, "RET") + "; PROC 3; END");
        Check.due("compile() of each PROC once", Program.edited(1, 64, "PROC 3; END; PROC 0; END; PROC 2; END; PROC 1;"
                + " END").compile(), 0);
    }

    private static void findsTheOpenBlock() {
        wrongAt(2, "IF 0");
        wrongAt(2, "WHILE 0");
        wrongAt(2, "PROC 0");
        wrongAt(4, "WHILE 0; IF 0; END");
        wrongAt(3, "CALL 0; WHILE 0");
        wrongAt(4, "PROC 0; CALL 1; RET");
        wrongAt(33, Program.times(31, "RET") + "; IF 0");
        wrongAt(33, "PROC 0; " + Program.times(31, "RET"));
        wrongAt(33, Program.times(32, "WHILE 0"));
        wrongAt(33, Program.times(17, "IF 0") + "; " + Program.times(15, "END"));
    }

    private static void findsTheCallOfNone() {
        for (int p = 0; p < 4; p++) {
            wrongAt(1, "CALL " + p);
            wrongAt(3, "PROC " + (p + 1) % 4 + "; END; CALL " + p);
        }
        wrongAt(4, "CALL 1; PROC 1; END; CALL 2; CALL 0");
        wrongAt(2, "PROC 0; CALL 3; END; CALL 2");
        wrongAt(32, Program.times(31, "RET") + "; CALL 0");
        // A PROC behind the CALL, before it and around it all name the procedure.
        for (int p = 0; p < 4; p++) {
            Program.ready(1, 64, "CALL " + p + "; PROC " + p + "; CALL " + p + "; END; CALL " + p);
        }
    }

    private static void failingChangesNothing() {
        String[] texts = {"END", "IF 0; PROC 0", "PROC 0; END; PROC 0; END", "SET 1 1; WHILE 0", "PROC 0; END; CALL 0; CALL 1"};
        int[] answers = {1, 2, 3, 3, 4};
        for (int i = 0; i < texts.length; i++) {
            LineProgramDbg x = Program.edited(2, 64, texts[i]);
            LineProgramDbg untouched = Program.edited(2, 64, texts[i]);
            for (int times = 0; times < 3; times++) {
                Check.due("compile() of " + texts[i], x.compile(), answers[i]);
                Check.due("the questions after it", Look.now(x), Look.fresh(LineProgramDbg.S_EDITING, ""));
            }
            int count = Program.lines(texts[i]).length;
            Check.due("addLine after it", Program.add(x, "SET 2 2"), count + 1);
            Check.due("addLine without it", Program.add(untouched, "SET 2 2"), count + 1);
            Check.due("what comes later", Look.later(x, true), Look.later(untouched, true));
        }
        mendsAndRuns();
    }

    private static void mendsAndRuns() {
        LineProgramDbg x = Program.edited(2, 64, "CALL 0; PROC 0");
        Check.due("compile() with PROC open", x.compile(), 3);
        Check.due("addLine", Program.add(x, "OP 1 1 2"), 3);
        Check.due("addLine", Program.add(x, "END"), 4);
        Check.due("addLine", Program.add(x, "CALL 1"), 5);
        Check.due("compile() with a CALL of none", x.compile(), 5);
        Check.due("addLine", Program.add(x, "PROC 1"), 6);
        Check.due("addLine", Program.add(x, "END"), 7);
        Check.due("compile() of the mended program", x.compile(), 0);
        Run.whole(x, "1 2/1 3/1 4/1 5 6/1 7/1");
    }

    private static void becomesReady() {
        LineProgramDbg x = Program.ready(1, 64, Stage.TEXT);
        Check.due("the questions after compile()", Look.now(x), Look.fresh(LineProgramDbg.S_READY, Stage.CODE));
        for (int line = 1; line <= Stage.CODE.length(); line++) {
            Check.due("clearBreakpoint(" + line + ")", x.clearBreakpoint(line), false);
        }
        // What was asked for while editing has left no breakpoint.
        LineProgramDbg y = Program.edited(1, 64, "SET 0 1; SET 0 2");
        Check.due("setBreakpoint(2) while editing", y.setBreakpoint(2), 0);
        Check.due("compile()", y.compile(), 0);
        Run.finishes(y, "cont()", 2);
    }

    private static void compilesNoLines() {
        LineProgramDbg x = new LineProgramDbg(1, 64);
        Check.due("compile()", x.compile(), 0);
        Check.due("the questions after it", Look.now(x), Look.fresh(LineProgramDbg.S_READY, ""));
        Run.finishes(x, "cont()", 0);
    }
}
