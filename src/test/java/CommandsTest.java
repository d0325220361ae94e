/** Promises 6 to 10 (restarting, the four ways of resuming): a test for each sentence that names a boundary. */
public final class CommandsTest {
    private static final String CALLS = "CALL 0; SET 0 9; PROC 0; SET 1 1; CALL 1; SET 2 1; END; PROC 1; SET 3 1; END";
    private static final String ENDLESS = "SET 0 1; WHILE 0; OP 1 1 1; END";
    /** Procedure 0 calls itself as often as line 1 says, so the same lines are met at every depth. */
    private static final String RECURSION = "SET 0 2; CALL 0; PROC 0; IF 0; OP 0 0 -1; CALL 0; END; END";

    public static void main(String[] args) {
        restarting();
        continuing();
        steppingInto();
        steppingOver();
        steppingOut();
        Check.end();
    }

    private static void restarting() {
        Check.sentence("`restart()` in `S_EDITING` answers false and nothing changes.",
                CommandsTest::restartsNotWhileEditing);
        Check.sentence("In any other state, state becomes `S_READY`: all variables 0, eventCount 0, no frames, no current"
                + " event.", CommandsTest::restartsFromEveryOtherState);
        Check.sentence("Lines and breakpoints are kept.", CommandsTest::restartKeepsLinesAndBreakpoints);
        Check.sentence("It answers true.", CommandsTest::restartAnswersTrue);
    }

    private static void continuing() {
        Check.sentence("`cont()` resumes with condition never, as described under Resuming. It therefore answers"
                + " `R_REFUSED` (outside `S_READY` and `S_PAUSED`), `R_BREAK`, `R_LIMIT`, `R_FINISHED` or `R_FAULT`,"
                + " never `R_STEP`.", CommandsTest::contNeverAnswersStep);
        Check.sentence("It therefore answers `R_REFUSED` (outside `S_READY` and `S_PAUSED`)",
                () -> refusesOutside("cont()"));
    }

    private static void steppingInto() {
        Check.sentence("`stepInto()` resumes with condition always, as described under Resuming.",
                CommandsTest::intoStopsEverywhere);
        Check.sentence("It answers `R_REFUSED` outside `S_READY` and `S_PAUSED`;", () -> refusesOutside("stepInto()"));
        Check.sentence("otherwise it pauses at the first event reached with answer `R_STEP`, or answers `R_FINISHED` or"
                + " `R_FAULT` if the program finishes or the run faults before an event is reached.",
                CommandsTest::intoAnswersStepOrTheEnd);
        Check.sentence("At most one event is reached.", CommandsTest::intoReachesOneEvent);
    }

    private static void steppingOver() {
        Check.sentence("`stepOver()` resumes with condition d < d0, or (d == d0 and L != L0), as described under Resuming.",
                CommandsTest::overResumes);
        Check.sentence("step-over stops at the first event reached that is at a shallower depth (on any line, even L0),",
                CommandsTest::overStopsShallowerOnAnyLine);
        Check.sentence("or at the same depth on a line other than L0,", CommandsTest::overStopsOnAnotherLine);
        Check.sentence("unless a breakpoint, the budget, a finish or a fault comes first.",
                CommandsTest::overIsCutOff);
        Check.sentence("a `stepOver()` that does not answer `R_LIMIT` ends with exactly the same",
                CommandsTest::overBehindTheLimit);
        Check.sentence("a `stepInto` answers `R_FINISHED` or `R_FAULT` (then `stepOver` answered the same);",
                CommandsTest::overEndsAsStepsDo);
        Check.sentence("a `stepInto` pauses at an event with `depth()` < d0, or with `depth()` == d0 and `currentLine()`"
                + " != L0 (then `stepOver` answered `R_STEP`);", CommandsTest::overStepsAsStepsDo);
        Check.sentence("a `stepInto` pauses, without the previous case holding, on a line carrying a breakpoint (then"
                + " `stepOver` answered `R_BREAK`).", CommandsTest::overBreaksAsStepsDo);
    }

    private static void steppingOut() {
        Check.sentence("`stepOut()` resumes with condition d < d0, as described under Resuming.",
                CommandsTest::outStopsShallowerAlone);
        Check.sentence("From `S_READY`, or when paused at depth 0, the condition can never hold, so the call ends only by"
                + " breakpoint, budget, finish or fault.", CommandsTest::outOfMainEndsByOtherReasons);
    }

    private static void restartsNotWhileEditing() {
        for (Stage stage : Stage.editing()) {
            stage.unchangedBy("restart()", x -> x.restart(), false);
        }
    }

    private static void restartsFromEveryOtherState() {
        for (Stage stage : Stage.compiled()) {
            LineProgramDbg x = stage.make();
            x.restart();
            Check.due("the questions after restart() when " + stage.name, Look.now(x),
                    Look.fresh(LineProgramDbg.S_READY, stage.code));
            // Twice is as good as once.
            x.restart();
            Check.due("the questions after two of them when " + stage.name, Look.now(x),
                    Look.fresh(LineProgramDbg.S_READY, stage.code));
        }
        // The run after it begins with no frame and with variables of 0.
        LineProgramDbg x = Program.ready(2, 64, "OP 0 0 1; CALL 0; RET; PROC 0; CALL 1; END; PROC 1; END");
        Run.steps(x, "1 2 4/1 5/1 7/2");
        Check.due("restart()", x.restart(), true);
        Run.whole(x, "1 2 4/1 5/1 7/2 8/2 6/1 3");
        Check.due("V0", x.variable(0), 1);
    }

    private static void restartKeepsLinesAndBreakpoints() {
        for (Stage stage : Stage.compiled()) {
            boolean set = stage.name.contains("breakpoints") || stage.name.contains("again")
                    || (stage.state == LineProgramDbg.S_PAUSED && !stage.name.contains("budget"));
            LineProgramDbg x = stage.make();
            x.restart();
            for (int line : Look.around(34)) {
                boolean due = set && (line == 1 || line == 13 || line == 17);
                Check.due("clearBreakpoint(" + line + ") when " + stage.name, x.clearBreakpoint(line), due);
            }
        }
        LineProgramDbg x = Program.ready(2, 64, CALLS);
        x.setBreakpoint(5);
        for (int times = 0; times < 3; times++) {
            Run.pauses(x, "cont()", Run.BREAK, 5, 1, 4);
            Run.finishes(x, "cont()", 10);
            Check.due("restart()", x.restart(), true);
        }
        Check.due("addLine after restart()", Program.add(x, "RET"), 0);
        Check.due("compile() after restart()", x.compile(), -1);
    }

    private static void restartAnswersTrue() {
        for (Stage stage : Stage.compiled()) {
            LineProgramDbg x = stage.make();
            Check.due("restart() when " + stage.name, x.restart(), true);
            Check.due("restart() again", x.restart(), true);
        }
    }

    private static void refusesOutside(String way) {
        for (Stage stage : Stage.editing()) {
            stage.unchangedBy(way, x -> Run.resume(x, way), Run.REFUSED);
        }
        for (Stage stage : Stage.ended()) {
            stage.unchangedBy(way, x -> Run.resume(x, way), Run.REFUSED);
        }
        for (Stage stage : Stage.resumable()) {
            Check.due(way + " is taken when " + stage.name, Run.resume(stage.make(), way) != Run.REFUSED, true);
        }
    }

    private static void contNeverAnswersStep() {
        LineProgramDbg x = Program.ready(2, 4, CALLS);
        x.setBreakpoint(3);
        Run.pauses(x, "cont()", Run.BREAK, 3, 1, 2);
        Run.pauses(x, "cont()", Run.LIMIT, 9, 2, 6);
        Run.pauses(x, "cont()", Run.LIMIT, 2, 0, 10);
        Run.finishes(x, "cont()", 10);
        Check.due("cont() when finished", x.cont(), Run.REFUSED);
        LineProgramDbg y = Program.ready(1, 64, CALLS);
        Run.faults(y, "cont()", 5, 1, 4);
        Check.due("cont() when faulted", y.cont(), Run.REFUSED);
        Check.due("cont() while editing", Program.edited(1, 64, CALLS).cont(), Run.REFUSED);
        // Neither a shallower depth nor another line ends it.
        LineProgramDbg deep = Program.ready(2, 64, CALLS);
        Run.steps(deep, "1 3/1 4/1 5/1 8/2 9/2");
        Run.finishes(deep, "cont()", 10);
    }

    private static void intoStopsEverywhere() {
        // Deeper, at the same depth, shallower, and on the same line at another depth.
        Run.whole(Program.ready(8, 64, RECURSION), "1 2 3/1 4/1 5/1 6/1 3/2 4/2 5/2 6/2 3/3 4/3 8/3 8/2 8/1");
    }

    private static void intoAnswersStepOrTheEnd() {
        LineProgramDbg x = Program.ready(2, 1, CALLS);
        for (int line : new int[] {1, 3, 8, 6, 2}) {
            x.setBreakpoint(line);
        }
        Run.whole(x, "1 3/1 4/1 5/1 8/2 9/2 10/2 6/1 7/1 2");
        LineProgramDbg y = Program.ready(1, 1, CALLS);
        Run.steps(y, "1 3/1 4/1 5/1");
        Run.faults(y, "stepInto()", 5, 1, 4);
        Run.finishes(Program.ready(1, 1, ""), "stepInto()", 0);
        Run.finishes(Program.ready(1, 1, "PROC 0; END"), "stepInto()", 0);
    }

    private static void intoReachesOneEvent() {
        for (int budget : new int[] {1, 2, 4096}) {
            LineProgramDbg x = Program.ready(1, budget, ENDLESS);
            for (int events = 1; events <= 30; events++) {
                Check.due("stepInto()", x.stepInto(), Run.STEP);
                Check.due("eventCount()", x.eventCount(), events);
            }
        }
        for (Stage stage : Stage.resumable()) {
            LineProgramDbg x = stage.make();
            int before = x.eventCount();
            int answer = x.stepInto();
            Check.due("events of stepInto() when " + stage.name, x.eventCount(), answer == Run.STEP ? before + 1 : before);
        }
    }

    private static void overResumes() {
        refusesOutside("stepOver()");
        LineProgramDbg x = Program.ready(2, 64, CALLS);
        Run.pauses(x, "stepOver()", Run.STEP, 1, 0, 1);
        Run.pauses(x, "stepOver()", Run.STEP, 2, 0, 10);
        Run.finishes(x, "stepOver()", 10);
    }

    private static void overStopsShallowerOnAnyLine() {
        // The END of procedure 0 is left for the same END, one call up.
        LineProgramDbg same = Program.ready(8, 64, RECURSION);
        Run.steps(same, "1 2 3/1 4/1 5/1 6/1 3/2 4/2 5/2 6/2 3/3 4/3 8/3");
        Run.pauses(same, "stepOver()", Run.STEP, 8, 2, 14);
        Run.pauses(same, "stepOver()", Run.STEP, 8, 1, 15);
        Run.finishes(same, "stepOver()", 15);
        // Left for another line, from an END and from a RET.
        LineProgramDbg other = Program.ready(2, 64, "CALL 0; RET; PROC 0; CALL 1; RET; END; PROC 1; END");
        Run.steps(other, "1 3/1 4/1 7/2 8/2");
        Run.pauses(other, "stepOver()", Run.STEP, 5, 1, 6);
        Run.pauses(other, "stepOver()", Run.STEP, 2, 0, 7);
        Run.finishes(other, "stepOver()", 7);
    }

    private static void overStopsOnAnotherLine() {
        // Every event of the calls lies deeper, even where it is on the line that the step began at.
        LineProgramDbg x = Program.ready(8, 64, RECURSION);
        Run.steps(x, "1 2 3/1 4/1 5/1 6/1");
        Run.pauses(x, "stepOver()", Run.STEP, 8, 1, 15);
        // A loop of two lines is not stepped over as a whole: the END is another line.
        LineProgramDbg y = Program.ready(1, 64, "SET 0 1; WHILE 0; END");
        Run.steps(y, "1 2");
        Run.pauses(y, "stepOver()", Run.STEP, 3, 0, 3);
        Run.pauses(y, "stepOver()", Run.STEP, 2, 0, 4);
        // A CALL in a loop: the END comes before the CALL is met again.
        LineProgramDbg z = Program.ready(1, 64, "SET 0 2; WHILE 0; CALL 0; END; PROC 0; OP 0 0 -1; END");
        Run.steps(z, "1 2 3");
        Run.pauses(z, "stepOver()", Run.STEP, 4, 0, 7);
        // From S_READY the first event is on another line than line 0.
        Run.pauses(Program.ready(1, 64, "PROC 0; END; RET"), "stepOver()", Run.STEP, 3, 0, 1);
    }

    private static void overIsCutOff() {
        LineProgramDbg broken = Program.ready(8, 64, RECURSION);
        Run.steps(broken, "1 2 3/1 4/1 5/1 6/1");
        broken.setBreakpoint(6);
        Run.pauses(broken, "stepOver()", Run.BREAK, 6, 2, 10);
        LineProgramDbg limited = Program.ready(2, 3, CALLS);
        Run.steps(limited, "1");
        Run.pauses(limited, "stepOver()", Run.LIMIT, 5, 1, 4);
        LineProgramDbg done = Program.ready(2, 64, "CALL 0; PROC 0; SET 0 1; END");
        Run.steps(done, "1");
        Run.finishes(done, "stepOver()", 4);
        LineProgramDbg fault = Program.ready(1, 64, CALLS);
        Run.steps(fault, "1");
        Run.faults(fault, "stepOver()", 5, 1, 4);
        // Just not cut off: the budget is used up by the event that ends the step.
        LineProgramDbg enough = Program.ready(2, 9, CALLS);
        Run.steps(enough, "1");
        Run.pauses(enough, "stepOver()", Run.STEP, 2, 0, 10);
        LineProgramDbg scarce = Program.ready(2, 8, CALLS);
        Run.steps(scarce, "1");
        Run.pauses(scarce, "stepOver()", Run.LIMIT, 7, 1, 9);
    }

    /** Steps over, and steps into so often that the other object stands at the same place. */
    private static void overIsSteps(LineProgramDbg over, LineProgramDbg into, int steps, int answer) {
        Check.due("stepOver()", over.stepOver(), answer);
        for (int i = 0; i < steps; i++) {
            into.stepInto();
        }
        Check.due("where stepOver() ends", Look.now(over), Look.now(into));
    }

    private static LineProgramDbg stepped(int maxDepth, String text, int breakpoint, int steps) {
        LineProgramDbg x = Program.ready(maxDepth, 64, text);
        if (breakpoint != 0) {
            Check.due("setBreakpoint", x.setBreakpoint(breakpoint), breakpoint);
        }
        for (int i = 0; i < steps; i++) {
            x.stepInto();
        }
        return x;
    }

    private static void overBehindTheLimit() {
        // Cut off by the budget, it stands where as many steps lead, though none of them would have ended it.
        LineProgramDbg limited = Program.ready(2, 5, CALLS);
        Run.steps(limited, "1");
        overIsSteps(limited, stepped(2, CALLS, 0, 1), 5, Run.LIMIT);
        // Going on from there is a new step from there.
        Run.pauses(limited, "stepOver()", Run.STEP, 10, 2, 7);
        // With the budget just large enough it is not cut off.
        LineProgramDbg enough = Program.ready(2, 9, CALLS);
        Run.steps(enough, "1");
        overIsSteps(enough, stepped(2, CALLS, 0, 1), 9, Run.STEP);
    }

    private static void overEndsAsStepsDo() {
        overIsSteps(stepped(1, CALLS, 0, 1), stepped(1, CALLS, 0, 1), 4, Run.FAULT);
        overIsSteps(stepped(1, CALLS, 0, 4), stepped(1, CALLS, 0, 4), 1, Run.FAULT);
        overIsSteps(stepped(2, CALLS, 0, 10), stepped(2, CALLS, 0, 10), 1, Run.FINISHED);
        overIsSteps(stepped(8, RECURSION, 0, 2), stepped(8, RECURSION, 0, 2), 14, Run.FINISHED);
    }

    private static void overStepsAsStepsDo() {
        overIsSteps(stepped(2, CALLS, 0, 1), stepped(2, CALLS, 0, 1), 9, Run.STEP);
        overIsSteps(stepped(2, CALLS, 0, 4), stepped(2, CALLS, 0, 4), 4, Run.STEP);
        overIsSteps(stepped(2, CALLS, 0, 7), stepped(2, CALLS, 0, 7), 1, Run.STEP);
        overIsSteps(stepped(8, RECURSION, 0, 6), stepped(8, RECURSION, 0, 6), 9, Run.STEP);
        overIsSteps(stepped(8, RECURSION, 0, 13), stepped(8, RECURSION, 0, 13), 1, Run.STEP);
        // The line where it ends carries a breakpoint, and the answer is still R_STEP.
        overIsSteps(stepped(2, CALLS, 2, 1), stepped(2, CALLS, 2, 1), 9, Run.STEP);
        overIsSteps(stepped(2, CALLS, 6, 4), stepped(2, CALLS, 6, 4), 4, Run.STEP);
    }

    private static void overBreaksAsStepsDo() {
        overIsSteps(stepped(2, CALLS, 9, 1), stepped(2, CALLS, 9, 1), 5, Run.BREAK);
        overIsSteps(stepped(2, CALLS, 3, 1), stepped(2, CALLS, 3, 1), 1, Run.BREAK);
        overIsSteps(stepped(2, CALLS, 10, 4), stepped(2, CALLS, 10, 4), 3, Run.BREAK);
        overIsSteps(stepped(8, RECURSION, 6, 6), stepped(8, RECURSION, 6, 6), 4, Run.BREAK);
    }

    private static void outStopsShallowerAlone() {
        refusesOutside("stepOut()");
        LineProgramDbg x = Program.ready(2, 64, CALLS);
        Run.steps(x, "1 3/1");
        // Past events at the same depth and deeper.
        Run.pauses(x, "stepOut()", Run.STEP, 2, 0, 10);
        Check.due("restart()", x.restart(), true);
        Run.steps(x, "1 3/1 4/1 5/1 8/2");
        Run.pauses(x, "stepOut()", Run.STEP, 6, 1, 8);
        Run.pauses(x, "stepOut()", Run.STEP, 2, 0, 10);
        // From the greatest depth down, one call at a time, each time to the same line.
        LineProgramDbg deep = Program.ready(3, 64, RECURSION);
        Run.steps(deep, "1 2 3/1 4/1 5/1 6/1 3/2 4/2 5/2 6/2 3/3");
        Run.pauses(deep, "stepOut()", Run.STEP, 8, 2, 14);
        Run.pauses(deep, "stepOut()", Run.STEP, 8, 1, 15);
        Run.finishes(deep, "stepOut()", 15);
        // Cut off by a breakpoint, the budget, a fault.
        LineProgramDbg broken = Program.ready(2, 64, CALLS);
        broken.setBreakpoint(9);
        Run.steps(broken, "1 3/1 4/1");
        Run.pauses(broken, "stepOut()", Run.BREAK, 9, 2, 6);
        LineProgramDbg limited = Program.ready(2, 2, CALLS);
        Run.steps(limited, "1 3/1");
        Run.pauses(limited, "stepOut()", Run.LIMIT, 5, 1, 4);
        LineProgramDbg fault = Program.ready(1, 64, CALLS);
        Run.steps(fault, "1 3/1");
        Run.faults(fault, "stepOut()", 5, 1, 4);
    }

    private static void outOfMainEndsByOtherReasons() {
        for (boolean ready : new boolean[] {true, false}) {
            LineProgramDbg done = main(ready, 2, 64, CALLS);
            Run.finishes(done, "stepOut()", 10);
            LineProgramDbg broken = main(ready, 2, 64, CALLS);
            broken.setBreakpoint(2);
            Run.pauses(broken, "stepOut()", Run.BREAK, 2, 0, 10);
            Run.finishes(broken, "stepOut()", 10);
            LineProgramDbg deeper = main(ready, 2, 64, CALLS);
            deeper.setBreakpoint(8);
            Run.pauses(deeper, "stepOut()", Run.BREAK, 8, 2, 5);
            Run.faults(main(ready, 1, 64, CALLS), "stepOut()", 5, 1, 4);
            Run.pauses(main(ready, 1, 6, ENDLESS), "stepOut()", Run.LIMIT, ready ? 3 : 4, 0, ready ? 6 : 7);
        }
        Run.finishes(Program.ready(1, 64, ""), "stepOut()", 0);
    }

    /** In S_READY, or paused at the first event. */
    private static LineProgramDbg main(boolean ready, int maxDepth, int budget, String text) {
        LineProgramDbg x = Program.ready(maxDepth, budget, text);
        if (!ready) {
            Run.steps(x, "1");
        }
        return x;
    }
}
