import java.util.Arrays;
import java.util.function.Function;
import java.util.function.IntUnaryOperator;

/** Promises 11 to 16 (state, line, depth, frames, variables, events): a test for each sentence that names a boundary. */
public final class QuestionsTest {
    private static final int MIN = Integer.MIN_VALUE;
    private static final int MAX = Integer.MAX_VALUE;
    private static final String CALLS = "SET 0 7; CALL 2; SET 1 8; PROC 2; CALL 1; END; PROC 1; SET 2 9; END";

    public static void main(String[] args) {
        aboutTheState();
        aboutTheLine();
        aboutTheDepth();
        aboutTheFrames();
        aboutTheVariables();
        aboutTheEvents();
        Check.end();
    }

    private static void aboutTheState() {
        Check.sentence("`state()` answers the current state, one of `S_EDITING`..`S_FAULTED`.",
                QuestionsTest::stateThroughARun);
        Check.sentence("`state()` answers the current state, one of `S_EDITING`..`S_FAULTED`. Nothing changes.",
                () -> changesNothing("state()", x -> x.state()));
    }

    private static void aboutTheLine() {
        Check.sentence("`currentLine()` answers, in `S_PAUSED` or `S_FAULTED`, the line of the current event; otherwise 0.",
                QuestionsTest::lineThroughARun);
        Check.sentence("Whenever the state is `S_PAUSED` or `S_FAULTED`, `hasCode(currentLine())` is true.",
                QuestionsTest::lineHasCode);
        Check.sentence("In `S_FAULTED` the current event is the CALL line whose performing faulted.",
                QuestionsTest::lineOfTheFault);
        Check.sentence("In `S_FAULTED` the current event is the CALL line whose performing faulted. Nothing changes.",
                () -> changesNothing("currentLine()", x -> x.currentLine()));
    }

    private static void aboutTheDepth() {
        Check.sentence("`depth()` answers, in `S_PAUSED` or `S_FAULTED`, the depth of the current event; otherwise 0.",
                QuestionsTest::depthThroughARun);
        Check.sentence("It lies in 0..maxDepth.", QuestionsTest::depthLiesInItsRange);
        Check.sentence("It lies in 0..maxDepth. Nothing changes.", () -> changesNothing("depth()", x -> x.depth()));
    }

    private static void aboutTheFrames() {
        Check.sentence("`frameLine(k)` answers, in `S_PAUSED` or `S_FAULTED` with 1 <= k <= `depth()`, the CALL line recorded"
                + " in frame k (frame 1 is the oldest).", QuestionsTest::framesThroughARun);
        Check.sentence("For any other k, or in any other state, it answers 0.", QuestionsTest::noOtherFrames);
        Check.sentence("For any other k, or in any other state, it answers 0. Nothing changes.", () -> {
            for (int k : new int[] {MIN, -1, 0, 1, 2, 3, 4, 8, 9, MAX}) {
                changesNothing("frameLine(" + k + ")", x -> x.frameLine(k));
            }
            changesNothing("every frameLine(k)", x -> each(Look.around(10), x::frameLine));
        });
    }

    private static void aboutTheVariables() {
        Check.sentence("`variable(v)` answers, for v in 0..7, the value of Vv,", QuestionsTest::everyVariable);
        Check.sentence("which is 0 in `S_EDITING` and 0 right after a successful compile or a restart.",
                QuestionsTest::variablesAreZero);
        Check.sentence("For any other v it answers 0.", QuestionsTest::noOtherVariables);
        Check.sentence("For any other v it answers 0. Nothing changes.", () -> {
            for (int v : new int[] {MIN, -1, 0, 1, 7, 8, MAX}) {
                changesNothing("variable(" + v + ")", x -> x.variable(v));
            }
            changesNothing("every variable(v)", x -> each(Look.around(10), x::variable));
        });
    }

    private static void aboutTheEvents() {
        Check.sentence("`eventCount()` answers the number of events reached since the last successful compile or restart.",
                QuestionsTest::countsEvents);
        Check.sentence("It is 0 in `S_EDITING`.", QuestionsTest::noEventsWhileEditing);
        Check.sentence("It is 0 in `S_EDITING`. Nothing changes.", () -> changesNothing("eventCount()", x -> x.eventCount()));
    }

    private static void changesNothing(String what, Function<LineProgramDbg, Object> question) {
        for (Stage stage : Stage.all()) {
            stage.unchangedByQuestion(what, question);
        }
    }

    private static String each(int[] arguments, IntUnaryOperator question) {
        return Arrays.toString(Arrays.stream(arguments).map(question).toArray());
    }

    private static void stateThroughARun() {
        LineProgramDbg x = new LineProgramDbg(2, 64);
        Check.due("state() at the start", x.state(), LineProgramDbg.S_EDITING);
        Program.add(x, "IF 0");
        Check.due("state() with a line", x.state(), LineProgramDbg.S_EDITING);
        x.compile();
        Check.due("state() after a failed compile", x.state(), LineProgramDbg.S_EDITING);
        Program.add(x, "END");
        x.compile();
        Check.due("state() after compile()", x.state(), LineProgramDbg.S_READY);
        x.stepInto();
        Check.due("state() at an event", x.state(), LineProgramDbg.S_PAUSED);
        x.stepInto();
        Check.due("state() at the end", x.state(), LineProgramDbg.S_FINISHED);
        x.restart();
        Check.due("state() after restart()", x.state(), LineProgramDbg.S_READY);
        LineProgramDbg y = Program.ready(1, 64, CALLS);
        y.cont();
        Check.due("state() after a fault", y.state(), LineProgramDbg.S_FAULTED);
        y.restart();
        Check.due("state() after restart()", y.state(), LineProgramDbg.S_READY);
        for (Stage stage : Stage.all()) {
            Check.due("state() when " + stage.name, stage.make().state(), stage.state);
        }
    }

    private static boolean hasEvent(Stage stage) {
        return stage.state == LineProgramDbg.S_PAUSED || stage.state == LineProgramDbg.S_FAULTED;
    }

    private static void lineThroughARun() {
        for (Stage stage : Stage.all()) {
            if (!hasEvent(stage)) {
                Check.due("currentLine() when " + stage.name, stage.make().currentLine(), 0);
            }
        }
        LineProgramDbg x = Program.ready(2, 64, CALLS);
        for (int line : new int[] {1, 2, 4, 5, 7, 8, 9, 6, 3}) {
            x.stepInto();
            Check.due("currentLine()", x.currentLine(), line);
        }
        x.stepInto();
        Check.due("currentLine() at the end", x.currentLine(), 0);
        // The first and the last line of a full program.
        LineProgramDbg full = Program.ready(1, 64, Program.times(32, "SET 0 1"));
        for (int line = 1; line <= 32; line++) {
            full.stepInto();
            Check.due("currentLine() in a full program", full.currentLine(), line);
        }
        full.restart();
        Check.due("currentLine() after restart()", full.currentLine(), 0);
    }

    private static void lineHasCode() {
        for (Stage stage : Stage.paused()) {
            LineProgramDbg x = stage.make();
            Check.due("hasCode(currentLine()) when " + stage.name, x.hasCode(x.currentLine()), true);
        }
        for (Stage stage : Stage.faulted()) {
            LineProgramDbg x = stage.make();
            Check.due("hasCode(currentLine()) when " + stage.name, x.hasCode(x.currentLine()), true);
        }
        // Past an END of an IF in each of the ways there are: from the body, from the IF, from a call.
        LineProgramDbg x = Program.ready(1, 64, "SET 0 2; WHILE 0; IF 0; IF 1; CALL 0; END; CALL 0; END; OP 0 0 -1; END;"
                + " PROC 0; IF 0; SET 1 1; END; IF 2; END; END");
        for (int events = 1; events <= 30; events++) {
            Check.due("stepInto()", x.stepInto(), Run.STEP);
            Check.due("hasCode(" + x.currentLine() + ")", x.hasCode(x.currentLine()), true);
        }
        Run.finishes(x, "stepInto()", 30);
    }

    private static void lineOfTheFault() {
        for (int maxDepth = 1; maxDepth <= 8; maxDepth++) {
            LineProgramDbg x = Program.ready(maxDepth, 64, "CALL 0; PROC 0; CALL 1; END; PROC 1; CALL 0; END");
            Check.due("cont()", x.cont(), Run.FAULT);
            Check.due("currentLine() of the fault", x.currentLine(), maxDepth % 2 == 1 ? 3 : 6);
        }
        LineProgramDbg last = Program.ready(1, 64, Program.times(28, "SET 0 1") + "; CALL 0; PROC 0; CALL 0; END");
        Run.faults(last, "cont()", 31, 1, 31);
    }

    private static void depthThroughARun() {
        for (Stage stage : Stage.all()) {
            if (!hasEvent(stage)) {
                Check.due("depth() when " + stage.name, stage.make().depth(), 0);
            }
        }
        LineProgramDbg x = Program.ready(2, 64, CALLS);
        for (int depth : new int[] {0, 0, 1, 1, 2, 2, 2, 1, 0}) {
            x.stepInto();
            Check.due("depth()", x.depth(), depth);
        }
        x.stepInto();
        Check.due("depth() at the end", x.depth(), 0);
        LineProgramDbg y = Program.ready(1, 64, CALLS);
        y.cont();
        Check.due("depth() after a fault", y.depth(), 1);
        y.restart();
        Check.due("depth() after restart()", y.depth(), 0);
        // A finish inside a procedure's return, and a restart out of the depth.
        LineProgramDbg z = Program.ready(2, 64, CALLS);
        Run.steps(z, "1 2 4/1 5/1 7/2");
        z.restart();
        Check.due("depth() after restart() out of depth 2", z.depth(), 0);
    }

    private static void depthLiesInItsRange() {
        int[][] pairs = {{MIN, 1}, {0, 1}, {1, 1}, {2, 2}, {3, 3}, {7, 7}, {8, 8}, {9, 8}, {MAX, 8}};
        for (int[] pair : pairs) {
            LineProgramDbg x = Program.ready(pair[0], 64, "SET 0 1; CALL 0; PROC 0; CALL 0; END");
            for (int events = 1; events <= 2 + 2 * pair[1]; events++) {
                x.stepInto();
                Check.due("depth() for maxDepth " + pair[0], x.depth(), (events - 1) / 2);
            }
            Check.due("stepInto()", x.stepInto(), Run.FAULT);
            Check.due("depth() of the fault for maxDepth " + pair[0], x.depth(), pair[1]);
        }
    }

    private static void framesThroughARun() {
        LineProgramDbg x = Program.ready(2, 64, CALLS);
        Run.steps(x, "1 2");
        Run.frames(x);
        Run.steps(x, "4/1");
        Run.frames(x, 2);
        Run.steps(x, "5/1");
        Run.frames(x, 2);
        Run.steps(x, "7/2");
        Run.frames(x, 2, 5);
        Run.steps(x, "8/2 9/2 6/1");
        Run.frames(x, 2);
        Run.steps(x, "3");
        Run.frames(x);
        LineProgramDbg fault = Program.ready(1, 64, CALLS);
        Run.faults(fault, "cont()", 5, 1, 4);
        Run.frames(fault, 2);
        LineProgramDbg deepest = Program.ready(8, 64, "CALL 0; PROC 0; CALL 1; END; PROC 1; CALL 0; END");
        Run.faults(deepest, "cont()", 6, 8, 17);
        Run.frames(deepest, 1, 3, 6, 3, 6, 3, 6, 3);
    }

    private static void noOtherFrames() {
        for (Stage stage : Stage.all()) {
            LineProgramDbg x = stage.make();
            int depth = hasEvent(stage) ? x.depth() : 0;
            for (int k : Look.around(40)) {
                if (k < 1 || k > depth) {
                    Check.due("frameLine(" + k + ") when " + stage.name, x.frameLine(k), 0);
                }
            }
        }
        // Frames that are gone answer no more: after a return, at the end, after a restart.
        LineProgramDbg x = Program.ready(2, 64, CALLS);
        Run.steps(x, "1 2 4/1 5/1 7/2 8/2 9/2 6/1");
        Check.due("frameLine(2) after the return", x.frameLine(2), 0);
        Run.steps(x, "3");
        Check.due("frameLine(1) after the return", x.frameLine(1), 0);
        LineProgramDbg last = Program.ready(1, 64, "CALL 0; PROC 0; END");
        Run.whole(last, "1 2/1 3/1");
        Check.due("frameLine(1) at the end", last.frameLine(1), 0);
        LineProgramDbg fault = Program.ready(1, 64, CALLS);
        fault.cont();
        fault.restart();
        Check.due("frameLine(1) after restart()", fault.frameLine(1), 0);
    }

    private static void everyVariable() {
        LineProgramDbg x = new LineProgramDbg(1, 64);
        for (int v = 0; v < 8; v++) {
            Check.due("addLine", Program.add(x, "SET " + v + " " + (v == 0 ? MIN : v == 7 ? MAX : 100 + v)), v + 1);
        }
        Check.due("compile()", x.compile(), 0);
        Run.finishes(x, "cont()", 8);
        for (int v = 0; v < 8; v++) {
            Check.due("variable(" + v + ")", x.variable(v), v == 0 ? MIN : v == 7 ? MAX : 100 + v);
        }
    }

    private static void variablesAreZero() {
        for (Stage stage : Stage.editing()) {
            variablesAreZero(stage.make(), stage.name);
        }
        variablesAreZero(Program.ready(8, 64, Stage.TEXT), "compiled");
        for (Stage stage : Stage.compiled()) {
            LineProgramDbg x = stage.make();
            x.restart();
            variablesAreZero(x, "restarted when " + stage.name);
        }
        LineProgramDbg x = Program.ready(1, 64, "SET 0 1; SET 1 2; SET 2 3; SET 3 4; SET 4 5; SET 5 6; SET 6 7; SET 7 8");
        Run.finishes(x, "cont()", 8);
        Check.due("variable(7)", x.variable(7), 8);
        x.restart();
        variablesAreZero(x, "restarted with all variables set");
    }

    private static void variablesAreZero(LineProgramDbg x, String name) {
        for (int v = 0; v < 8; v++) {
            Check.due("variable(" + v + ") when " + name, x.variable(v), 0);
        }
    }

    private static void noOtherVariables() {
        LineProgramDbg set = Program.ready(1, 64, "SET 0 1; SET 1 2; SET 2 3; SET 3 4; SET 4 5; SET 5 6; SET 6 7; SET 7 8");
        Run.finishes(set, "cont()", 8);
        for (int v : Look.around(40)) {
            Check.due("variable(" + v + ")", set.variable(v), v >= 0 && v < 8 ? v + 1 : 0);
        }
        for (Stage stage : Stage.all()) {
            LineProgramDbg x = stage.make();
            for (int v : new int[] {MIN, MIN + 7, -8, -1, 8, 9, 15, 16, MAX}) {
                Check.due("variable(" + v + ") when " + stage.name, x.variable(v), 0);
            }
        }
    }

    private static void countsEvents() {
        LineProgramDbg x = Program.ready(1, 4096, "SET 0 1; WHILE 0; END");
        Check.due("eventCount() after compile()", x.eventCount(), 0);
        for (int call = 1; call <= 50; call++) {
            x.cont();
            Check.due("eventCount() after " + call + " calls", x.eventCount(), 4096 * call);
        }
        x.stepInto();
        Check.due("eventCount() after a step", x.eventCount(), 4096 * 50 + 1);
        x.restart();
        Check.due("eventCount() after restart()", x.eventCount(), 0);
        x.stepInto();
        Check.due("eventCount() after its first step", x.eventCount(), 1);
        // Neither a finish, a fault nor a refused call is an event; the count stays until the restart.
        LineProgramDbg done = Program.ready(1, 64, "SET 0 1; SET 0 2");
        Run.finishes(done, "cont()", 2);
        Check.due("cont() when finished", done.cont(), Run.REFUSED);
        Check.due("compile() when finished", done.compile(), -1);
        Check.due("eventCount() after refused calls", done.eventCount(), 2);
        LineProgramDbg fault = Program.ready(1, 64, CALLS);
        Run.faults(fault, "cont()", 5, 1, 4);
        Check.due("stepInto() when faulted", fault.stepInto(), Run.REFUSED);
        Check.due("eventCount() after a refused call", fault.eventCount(), 4);
    }

    private static void noEventsWhileEditing() {
        for (Stage stage : Stage.editing()) {
            LineProgramDbg x = stage.make();
            Check.due("eventCount() when " + stage.name, x.eventCount(), 0);
            for (String way : Run.WAYS) {
                Run.resume(x, way);
                Check.due("eventCount() after " + way + " when " + stage.name, x.eventCount(), 0);
            }
        }
    }
}
