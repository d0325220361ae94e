/** 'Programs and runs', the paragraph Resuming: a test for each sentence that names a boundary. */
public final class ResumingTest {
    private static final String SIX = "SET 0 1; SET 0 2; SET 0 3; SET 0 4; SET 0 5; SET 0 6";
    private static final String ENDLESS = "SET 0 1; WHILE 0; OP 1 1 1; END";
    private static final String CALLS = "CALL 0; SET 0 9; PROC 0; SET 1 1; CALL 1; SET 2 1; END; PROC 1; SET 3 1; END";

    public static void main(String[] args) {
        Check.sentence("Unless state is `S_READY` or `S_PAUSED`, the call answers `R_REFUSED` and changes nothing.",
                ResumingTest::refusesInOtherStates);
        Check.sentence("Let (L0, d0) be the current event in `S_PAUSED`, or (0, 0) in `S_READY`.",
                ResumingTest::startsFromLine0);
        Check.sentence("In `S_PAUSED`, the line of the current event is performed first.",
                ResumingTest::performsThePausedLineFirst);
        Check.sentence("In `S_READY`, the first event of the run is sought.", ResumingTest::seeksTheFirstEvent);
        Check.sentence("the program finishes: state `S_FINISHED`, no current event, answer `R_FINISHED`;",
                ResumingTest::finishHasNoEvent);
        Check.sentence("the run faults: state `S_FAULTED`, answer `R_FAULT`;", ResumingTest::faultKeepsItsEvent);
        Check.sentence("an event (L, d) is reached: it becomes current and eventCount grows by 1.",
                ResumingTest::countsEachEvent);
        Check.sentence("on the FIRST of these that holds:", ResumingTest::takesTheFirstReason);
        Check.sentence("the command's condition holds: answer `R_STEP`;", ResumingTest::answersStep);
        Check.sentence("line L carries a breakpoint: answer `R_BREAK`;", ResumingTest::breaksOnEveryLineWithCode);
        Check.sentence("j == budget: answer `R_LIMIT`.", ResumingTest::stopsAtTheBudget);
        Check.sentence("with j counting from 1 the events reached by this call:", ResumingTest::countsTheBudgetAnew);
        Check.sentence("If none holds, line L is performed and this repeats.", ResumingTest::endsWithinTheBudget);
        Check.sentence("`stepInto`: always.", ResumingTest::intoHoldsAlways);
        Check.sentence("`stepOver`: d < d0, or (d == d0 and L != L0).", ResumingTest::overHoldsNotDeeper);
        Check.sentence("`stepOut`: d < d0.", ResumingTest::outHoldsShallower);
        Check.sentence("`cont`: never.", ResumingTest::contHoldsNever);
        Check.sentence("Variables keep their values in `S_PAUSED`, `S_FINISHED` and `S_FAULTED`.",
                ResumingTest::keepsVariables);
        Check.sentence("A finish or fault may happen while performing the paused line itself, before any new event is"
                + " reached; then eventCount is unchanged.", ResumingTest::endsBeforeAnEvent);
        Check.sentence("Lines and breakpoints are never changed by resuming.", ResumingTest::keepsLinesAndBreakpoints);
        Check.end();
    }

    private static void refusesInOtherStates() {
        for (String way : Run.WAYS) {
            for (Stage stage : Stage.editing()) {
                stage.unchangedBy(way, x -> Run.resume(x, way), Run.REFUSED);
            }
            for (Stage stage : Stage.ended()) {
                stage.unchangedBy(way, x -> Run.resume(x, way), Run.REFUSED);
            }
            for (Stage stage : Stage.resumable()) {
                Check.due(way + " is taken when " + stage.name, Run.resume(stage.make(), way) != Run.REFUSED, true);
            }
        }
    }

    private static void startsFromLine0() {
        // No line is line 0, so a step over from S_READY ends at the first event, whatever its line.
        Run.pauses(Program.ready(1, 64, SIX), "stepOver()", Run.STEP, 1, 0, 1);
        Run.pauses(Program.ready(1, 64, "PROC 0; END; SET 0 1"), "stepOver()", Run.STEP, 3, 0, 1);
        // The depth before the restart is forgotten: depth 0 is not shallower than that of S_READY.
        LineProgramDbg x = Program.ready(2, 64, CALLS);
        Run.steps(x, "1 3/1 4/1 5/1 8/2");
        Check.due("restart()", x.restart(), true);
        Run.finishes(x, "stepOut()", 10);
        // A call starts from where the call before it ended, not from where that one started.
        LineProgramDbg y = Program.ready(2, 64, CALLS);
        Run.steps(y, "1 3/1");
        Run.pauses(y, "stepOver()", Run.STEP, 4, 1, 3);
        Run.pauses(y, "stepOver()", Run.STEP, 5, 1, 4);
        Run.pauses(y, "stepOver()", Run.STEP, 6, 1, 8);
        Run.pauses(y, "stepOut()", Run.STEP, 2, 0, 10);
    }

    private static void performsThePausedLineFirst() {
        for (String way : Run.WAYS) {
            // The breakpoint on the paused line does not hold the run there once more.
            LineProgramDbg x = Program.ready(1, 64, SIX);
            x.setBreakpoint(1);
            x.setBreakpoint(2);
            Run.pauses(x, "cont()", Run.BREAK, 1, 0, 1);
            boolean step = way.equals("stepInto()") || way.equals("stepOver()");
            Run.pauses(x, way, step ? Run.STEP : Run.BREAK, 2, 0, 2);
            Check.due("V0 after " + way, x.variable(0), 1);
        }
        // It holds the run when the run comes back.
        LineProgramDbg y = Program.ready(1, 64, ENDLESS);
        y.setBreakpoint(3);
        Run.pauses(y, "cont()", Run.BREAK, 3, 0, 3);
        Run.pauses(y, "cont()", Run.BREAK, 3, 0, 6);
        Check.due("V1", y.variable(1), 1);
    }

    private static void seeksTheFirstEvent() {
        for (String way : Run.WAYS) {
            LineProgramDbg x = Program.ready(1, 1, SIX);
            x.setBreakpoint(1);
            boolean step = way.equals("stepInto()") || way.equals("stepOver()");
            Run.pauses(x, way, step ? Run.STEP : Run.BREAK, 1, 0, 1);
            Check.due("V0 before line 1", x.variable(0), 0);
        }
    }

    private static void finishHasNoEvent() {
        for (String way : Run.WAYS) {
            LineProgramDbg x = Program.ready(1, 64, "SET 0 1; CALL 0; PROC 0; SET 1 1; END");
            Run.steps(x, "1 2 3/1 4/1 5/1");
            Run.finishes(x, way, 5);
            Run.frames(x);
        }
        Run.finishes(Program.ready(1, 64, SIX), "cont()", 6);
        Run.finishes(Program.ready(1, 64, SIX), "stepOut()", 6);
    }

    private static void faultKeepsItsEvent() {
        String text = "CALL 0; RET; PROC 0; CALL 0; END";
        for (String way : Run.WAYS) {
            LineProgramDbg x = Program.ready(1, 64, text);
            Run.steps(x, "1 3/1 4/1");
            Run.faults(x, way, 4, 1, 3);
            Run.frames(x, 1);
        }
        Run.faults(Program.ready(1, 64, text), "cont()", 4, 1, 3);
        Run.faults(Program.ready(1, 64, text), "stepOut()", 4, 1, 3);
        LineProgramDbg over = Program.ready(1, 64, text);
        Run.steps(over, "1");
        Run.faults(over, "stepOver()", 4, 1, 3);
    }

    private static void countsEachEvent() {
        LineProgramDbg x = Program.ready(1, 5, ENDLESS);
        Run.pauses(x, "stepInto()", Run.STEP, 1, 0, 1);
        Run.pauses(x, "cont()", Run.LIMIT, 3, 0, 6);
        Run.pauses(x, "stepOver()", Run.STEP, 4, 0, 7);
        x.setBreakpoint(3);
        Run.pauses(x, "stepOut()", Run.BREAK, 3, 0, 9);
        LineProgramDbg y = Program.ready(2, 64, CALLS);
        Run.finishes(y, "cont()", 10);
    }

    private static void takesTheFirstReason() {
        // All three hold.
        for (String way : new String[] {"stepInto()", "stepOver()"}) {
            LineProgramDbg x = Program.ready(1, 1, SIX);
            x.setBreakpoint(1);
            x.setBreakpoint(2);
            Run.pauses(x, way, Run.STEP, 1, 0, 1);
            Run.pauses(x, way, Run.STEP, 2, 0, 2);
        }
        LineProgramDbg out = Program.ready(1, 1, "CALL 0; SET 0 1; PROC 0; END");
        out.setBreakpoint(2);
        Run.steps(out, "1 3/1 4/1");
        Run.pauses(out, "stepOut()", Run.STEP, 2, 0, 4);
        // The condition and the budget hold.
        Run.pauses(Program.ready(1, 1, SIX), "stepInto()", Run.STEP, 1, 0, 1);
        Run.pauses(Program.ready(1, 1, SIX), "stepOver()", Run.STEP, 1, 0, 1);
        // The breakpoint and the budget hold.
        for (String way : new String[] {"cont()", "stepOut()"}) {
            LineProgramDbg x = Program.ready(1, 3, SIX);
            x.setBreakpoint(3);
            Run.pauses(x, way, Run.BREAK, 3, 0, 3);
            Run.pauses(x, way, Run.LIMIT, 6, 0, 6);
        }
        LineProgramDbg over = Program.ready(2, 2, CALLS);
        over.setBreakpoint(4);
        Run.steps(over, "1");
        Run.pauses(over, "stepOver()", Run.BREAK, 4, 1, 3);
    }

    private static void answersStep() {
        LineProgramDbg x = Program.ready(2, 64, CALLS);
        Run.pauses(x, "stepInto()", Run.STEP, 1, 0, 1);
        Run.pauses(x, "stepInto()", Run.STEP, 3, 1, 2);
        Run.pauses(x, "stepOver()", Run.STEP, 4, 1, 3);
        Run.pauses(x, "stepOut()", Run.STEP, 2, 0, 10);
    }

    private static void breaksOnEveryLineWithCode() {
        // Every kind of line, each alone: SET, WHILE, OP, IF, CALL, PROC, RET, and the ENDs of WHILE and PROC.
        String text = "SET 0 1; WHILE 0; OP 0 0 -1; IF 1; END; END; CALL 0; CALL 1; PROC 0; RET; END; PROC 1; END";
        String events = "1 2 3 4 6 2 7 9/1 10/1 8 12/1 13/1";
        Run.whole(Program.ready(1, 64, text), events);
        String[] each = events.split(" ");
        for (int line : new int[] {1, 2, 3, 4, 6, 7, 8, 9, 10, 12, 13}) {
            LineProgramDbg x = Program.ready(1, 64, text);
            Check.due("setBreakpoint(" + line + ")", x.setBreakpoint(line), line);
            for (int i = 0; i < each.length; i++) {
                String[] event = each[i].split("/");
                if (event[0].equals(Integer.toString(line))) {
                    Run.pauses(x, "cont()", Run.BREAK, line, event.length - 1, i + 1);
                }
            }
            Run.finishes(x, "cont()", each.length);
        }
        // The first line and the last line of a full program.
        LineProgramDbg full = Program.ready(1, 64, Program.times(32, "OP 0 0 1"));
        full.setBreakpoint(1);
        full.setBreakpoint(32);
        Run.pauses(full, "cont()", Run.BREAK, 1, 0, 1);
        Run.pauses(full, "cont()", Run.BREAK, 32, 0, 32);
        Check.due("V0 before line 32", full.variable(0), 31);
        Run.finishes(full, "cont()", 32);
    }

    private static void stopsAtTheBudget() {
        for (int budget : new int[] {1, 2, 3, 4, 5, 64, 4095, 4096}) {
            for (String way : new String[] {"cont()", "stepOut()"}) {
                LineProgramDbg x = Program.ready(1, budget, ENDLESS);
                // After line 1, the lines 2, 3 and 4 come round and round.
                Run.pauses(x, way, Run.LIMIT, budget == 1 ? 1 : 2 + (budget - 2) % 3, 0, budget);
            }
        }
        LineProgramDbg over = Program.ready(1, 4096, "CALL 0; PROC 0; SET 0 1; WHILE 0; END; END");
        Run.steps(over, "1");
        Run.pauses(over, "stepOver()", Run.LIMIT, 5, 1, 4097);
    }

    private static void countsTheBudgetAnew() {
        LineProgramDbg x = Program.ready(2, 3, ENDLESS);
        Run.pauses(x, "cont()", Run.LIMIT, 3, 0, 3);
        Run.pauses(x, "cont()", Run.LIMIT, 3, 0, 6);
        Run.pauses(x, "stepOut()", Run.LIMIT, 3, 0, 9);
        Run.pauses(x, "stepInto()", Run.STEP, 4, 0, 10);
        Run.pauses(x, "cont()", Run.LIMIT, 4, 0, 13);
        LineProgramDbg over = Program.ready(2, 3, CALLS);
        Run.steps(over, "1");
        Run.pauses(over, "stepOver()", Run.LIMIT, 5, 1, 4);
        Run.pauses(over, "stepOver()", Run.LIMIT, 10, 2, 7);
        // The greatest budget, call after call.
        LineProgramDbg most = Program.ready(1, 4096, ENDLESS);
        for (int call = 1; call <= 50; call++) {
            Run.pauses(most, "cont()", Run.LIMIT, 2 + (4096 * call - 2) % 3, 0, 4096 * call);
        }
    }

    private static void endsWithinTheBudget() {
        // At the budget the last line is not performed any more, so the end comes with the next call.
        LineProgramDbg x = Program.ready(1, 6, SIX);
        Run.pauses(x, "cont()", Run.LIMIT, 6, 0, 6);
        Check.due("V0 before line 6", x.variable(0), 5);
        Run.finishes(x, "cont()", 6);
        Run.finishes(Program.ready(1, 7, SIX), "cont()", 6);
        String fault = "CALL 0; PROC 0; CALL 0; END";
        LineProgramDbg y = Program.ready(1, 3, fault);
        Run.pauses(y, "cont()", Run.LIMIT, 3, 1, 3);
        Run.faults(y, "cont()", 3, 1, 3);
        Run.faults(Program.ready(1, 4, fault), "cont()", 3, 1, 3);
    }

    private static void intoHoldsAlways() {
        // Deeper, at the same depth, shallower, and twice on the same line.
        Run.whole(Program.ready(2, 64, CALLS), "1 3/1 4/1 5/1 8/2 9/2 10/2 6/1 7/1 2");
        Run.steps(Program.ready(1, 64, "SET 0 1; WHILE 0; END"), "1 2 3 2 3");
    }

    private static void overHoldsNotDeeper() {
        LineProgramDbg x = Program.ready(2, 64, CALLS);
        Run.steps(x, "1");
        Run.pauses(x, "stepOver()", Run.STEP, 2, 0, 10);
        Run.finishes(x, "stepOver()", 10);
        Check.due("restart()", x.restart(), true);
        Run.steps(x, "1 3/1 4/1 5/1 8/2");
        Run.pauses(x, "stepOver()", Run.STEP, 9, 2, 6);
        Run.pauses(x, "stepOver()", Run.STEP, 10, 2, 7);
        Run.pauses(x, "stepOver()", Run.STEP, 6, 1, 8);
    }

    private static void outHoldsShallower() {
        LineProgramDbg x = Program.ready(2, 64, CALLS);
        Run.steps(x, "1 3/1 4/1 5/1 8/2");
        Run.pauses(x, "stepOut()", Run.STEP, 6, 1, 8);
        Run.pauses(x, "stepOut()", Run.STEP, 2, 0, 10);
        Run.finishes(x, "stepOut()", 10);
        Check.due("restart()", x.restart(), true);
        Run.steps(x, "1 3/1");
        Run.pauses(x, "stepOut()", Run.STEP, 2, 0, 10);
    }

    private static void contHoldsNever() {
        Run.finishes(Program.ready(2, 64, CALLS), "cont()", 10);
        LineProgramDbg x = Program.ready(2, 64, CALLS);
        Run.steps(x, "1 3/1 4/1 5/1 8/2");
        Run.finishes(x, "cont()", 10);
    }

    private static void keepsVariables() {
        String text = "SET 0 10; SET 7 17; CALL 0; RET; PROC 0; OP 3 7 1; CALL 1; END; PROC 1; END";
        LineProgramDbg x = Program.ready(1, 64, text);
        Run.steps(x, "1 2 3");
        variables(x, 10, 0, 17);
        Run.faults(x, "cont()", 7, 1, 6);
        variables(x, 10, 18, 17);
        LineProgramDbg y = Program.ready(2, 5, text);
        Run.pauses(y, "cont()", Run.LIMIT, 6, 1, 5);
        variables(y, 10, 0, 17);
        y.setBreakpoint(9);
        Run.pauses(y, "cont()", Run.BREAK, 9, 2, 7);
        variables(y, 10, 18, 17);
        Run.finishes(y, "cont()", 10);
        variables(y, 10, 18, 17);
        for (String way : Run.WAYS) {
            Check.due(way + " when finished", Run.resume(y, way), Run.REFUSED);
        }
        variables(y, 10, 18, 17);
    }

    private static void variables(LineProgramDbg x, int v0, int v3, int v7) {
        for (int v = 0; v < 8; v++) {
            Check.due("variable(" + v + ")", x.variable(v), v == 0 ? v0 : v == 3 ? v3 : v == 7 ? v7 : 0);
        }
    }

    private static void endsBeforeAnEvent() {
        for (String way : Run.WAYS) {
            LineProgramDbg last = Program.ready(1, 1, "SET 2 7; PROC 0; END");
            Run.steps(last, "1");
            Run.finishes(last, way, 1);
            LineProgramDbg ret = Program.ready(1, 1, "RET; SET 2 7");
            Run.steps(ret, "1");
            Run.finishes(ret, way, 1);
            LineProgramDbg call = Program.ready(1, 1, "CALL 0; PROC 0; CALL 0; END");
            Run.steps(call, "1 2/1 3/1");
            Run.faults(call, way, 3, 1, 3);
            Run.finishes(Program.ready(1, 1, ""), way, 0);
        }
    }

    private static void keepsLinesAndBreakpoints() {
        for (String way : Run.WAYS) {
            for (int maxDepth : new int[] {1, 2}) {
                LineProgramDbg x = Program.ready(maxDepth, 3, CALLS);
                int[] set = {1, 5, 8, 10};
                for (int line : set) {
                    x.setBreakpoint(line);
                }
                for (int i = 0; i < 20; i++) {
                    Run.resume(x, way);
                }
                for (int line = 1; line <= 10; line++) {
                    boolean due = java.util.Arrays.binarySearch(set, line) >= 0;
                    Check.due("clearBreakpoint(" + line + ") after " + way, x.clearBreakpoint(line), due);
                }
                String code = "1".repeat(10);
                Check.due("restart()", x.restart(), true);
                Check.due("the questions after a restart", Look.now(x), Look.fresh(LineProgramDbg.S_READY, code));
                Run.steps(x, "1 3/1 4/1 5/1");
            }
        }
    }
}
