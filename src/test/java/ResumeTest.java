/** Promises 6 to 10: restarting and the four ways of resuming. */
public final class ResumeTest {
    private static final int REFUSED = LineProgramDbg.R_REFUSED;
    private static final int STEP = LineProgramDbg.R_STEP;
    private static final int BREAK = LineProgramDbg.R_BREAK;
    private static final int LIMIT = LineProgramDbg.R_LIMIT;
    private static final int FINISHED = LineProgramDbg.R_FINISHED;
    private static final int FAULT = LineProgramDbg.R_FAULT;

    public static void main(String[] args) {
        refusesOutsideReadyAndPaused();
        finishesWithoutAnEvent();
        takesTheFirstEvent();
        passesOverProceduresAndIfEnds();
        performsEveryKind();
        returnsAndFinishes();
        ordersTheReasons();
        keepsTheBudgetPerCall();
        finishesOrFaultsWithinTheBudget();
        stepsOverCalls();
        stepsOverTheSameLine();
        stepsOverToAShallowerSameLine();
        stepsOut();
        stepsOutOfMain();
        faultsAtTheDepth();
        restartsFromEveryState();
        wrapsAround();
        Check.end();
    }

    private static void paused(String what, LineProgramDbg x, int got, int answer, int line, int depth, int events) {
        Check.due(what, Check.at(x, got), Check.row(answer, LineProgramDbg.S_PAUSED, line, depth, events));
    }

    private static void finished(String what, LineProgramDbg x, int got, int events) {
        Check.due(what, Check.at(x, got), Check.row(FINISHED, LineProgramDbg.S_FINISHED, 0, 0, events));
    }

    private static void faulted(String what, LineProgramDbg x, int got, int line, int depth, int events) {
        Check.due(what, Check.at(x, got), Check.row(FAULT, LineProgramDbg.S_FAULTED, line, depth, events));
    }

    /** Steps into, and expects these (line, depth) pairs one after the other. */
    private static void steps(String what, LineProgramDbg x, int... pairs) {
        int before = x.eventCount();
        for (int i = 0; i < pairs.length; i += 2) {
            int answer = x.stepInto();
            paused(what + ", step " + (i / 2 + 1), x, answer, STEP, pairs[i], pairs[i + 1], before + i / 2 + 1);
        }
    }

    private static int resume(LineProgramDbg x, int way) {
        switch (way) {
            case 0:
                return x.cont();
            case 1:
                return x.stepInto();
            case 2:
                return x.stepOver();
            default:
                return x.stepOut();
        }
    }

    private static void refuses(String what, LineProgramDbg x) {
        String before = Check.look(x);
        for (int way = 0; way < 4; way++) {
            Check.due(what + ", way " + way, resume(x, way), REFUSED);
            Check.due(what + ", what stands", Check.look(x), before);
        }
    }

    private static void refusesOutsideReadyAndPaused() {
        refuses("no lines in S_EDITING", new LineProgramDbg(1, 64));
        refuses("lines in S_EDITING", Check.edited(1, 64, Check.set(0, 1)));
        LineProgramDbg open = Check.edited(1, 64, Check.set(0, 1), Check.when(0));
        Check.due("compile()", open.compile(), 3);
        refuses("after a failed compile", open);
        LineProgramDbg done = Check.ready(1, 64, Check.set(0, 1));
        done.cont();
        refuses("S_FINISHED", done);
        LineProgramDbg fault = Check.ready(1, 64, Check.set(3, 1), Check.call(0), Check.proc(0), Check.call(0),
                Check.close());
        fault.cont();
        Check.due("state()", fault.state(), LineProgramDbg.S_FAULTED);
        refuses("S_FAULTED", fault);
    }

    private static void finishesWithoutAnEvent() {
        for (int way = 0; way < 4; way++) {
            LineProgramDbg none = Check.ready(1, 1);
            finished("no lines", none, resume(none, way), 0);
            LineProgramDbg procs = Check.ready(1, 1, Check.proc(0), Check.ret(), Check.close(), Check.proc(1),
                    Check.close());
            finished("procedures alone", procs, resume(procs, way), 0);
            LineProgramDbg last = Check.ready(1, 1, Check.set(2, 7), Check.proc(0), Check.close());
            last.stepInto();
            finished("the paused line is the last", last, resume(last, way), 1);
            Check.due("it was performed", last.variable(2), 7);
            LineProgramDbg end = Check.ready(1, 1, Check.ret(), Check.set(2, 7));
            end.stepInto();
            finished("the paused line is RET", end, resume(end, way), 1);
            Check.due("nothing after it was performed", end.variable(2), 0);
        }
    }

    private static void takesTheFirstEvent() {
        int[][] lines = {Check.proc(1), Check.close(), Check.set(0, 5), Check.set(1, 6)};
        LineProgramDbg into = Check.ready(1, 64, lines);
        paused("stepInto()", into, into.stepInto(), STEP, 3, 0, 1);
        Check.due("its line is not performed", into.variable(0), 0);
        LineProgramDbg over = Check.ready(1, 64, lines);
        paused("stepOver()", over, over.stepOver(), STEP, 3, 0, 1);
        LineProgramDbg out = Check.ready(1, 64, lines);
        finished("stepOut()", out, out.stepOut(), 2);
        LineProgramDbg on = Check.ready(1, 64, lines);
        finished("cont()", on, on.cont(), 2);
        Check.due("what it set", on.variable(0) * 10 + on.variable(1), 56);
    }

    private static void passesOverProceduresAndIfEnds() {
        LineProgramDbg x = Check.ready(1, 64, Check.set(0, 1), Check.when(0), Check.when(0), Check.close(),
                Check.close(), Check.proc(0), Check.ret(), Check.close(), Check.proc(1), Check.close(),
                Check.set(1, 2), Check.when(7), Check.set(1, 3), Check.close());
        steps("IF ENDs and procedures", x, 1, 0, 2, 0, 3, 0, 11, 0, 12, 0);
        finished("an IF not taken at the end", x, x.stepInto(), 5);
        Check.due("its body", x.variable(1), 2);
    }

    private static void performsEveryKind() {
        LineProgramDbg x = Check.ready(2, 64, Check.set(0, 2), Check.loop(0), Check.call(3), Check.when(0),
                Check.op(5, 0, 40), Check.close(), Check.close(), Check.op(6, 5, -1), Check.proc(3),
                Check.op(0, 0, -1), Check.close());
        steps("to the call", x, 1, 0, 2, 0, 3, 0);
        steps("through the procedure", x, 9, 1, 10, 1, 11, 1, 4, 0);
        steps("IF taken", x, 5, 0, 7, 0);
        steps("WHILE again", x, 2, 0, 3, 0, 9, 1, 10, 1, 11, 1);
        steps("IF not taken", x, 4, 0, 7, 0);
        steps("WHILE left", x, 2, 0, 8, 0);
        finished("the end", x, x.stepInto(), 18);
        Check.due("V0", x.variable(0), 0);
        Check.due("V5", x.variable(5), 41);
        Check.due("V6", x.variable(6), 40);
        LineProgramDbg never = Check.ready(1, 64, Check.loop(0), Check.set(1, 1), Check.close(), Check.set(2, 2));
        steps("WHILE never entered", never, 1, 0, 4, 0);
        LineProgramDbg negative = Check.ready(1, 64, Check.set(0, -1), Check.when(0), Check.set(1, 1), Check.close());
        steps("IF of a negative number", negative, 1, 0, 2, 0, 3, 0);
    }

    private static void returnsAndFinishes() {
        LineProgramDbg x = Check.ready(2, 64, Check.call(0), Check.when(0), Check.ret(), Check.close(),
                Check.proc(0), Check.call(1), Check.set(0, 1), Check.loop(0), Check.ret(), Check.close(),
                Check.close(), Check.proc(1), Check.when(0), Check.close(), Check.close());
        steps("two procedures", x, 1, 0, 5, 1, 6, 1, 12, 2, 13, 2, 15, 2, 7, 1, 8, 1, 9, 1);
        steps("RET out of a WHILE", x, 2, 0, 3, 0);
        finished("RET in an IF at depth 0", x, x.stepInto(), 11);
        LineProgramDbg y = Check.ready(1, 64, Check.set(0, 1), Check.when(0), Check.call(0), Check.close(),
                Check.proc(0), Check.close());
        steps("a call that is last", y, 1, 0, 2, 0, 3, 0, 5, 1, 6, 1);
        finished("END of a PROC back to the end", y, y.stepInto(), 5);
    }

    private static void ordersTheReasons() {
        int[][] lines = {Check.set(0, 1), Check.set(0, 2), Check.set(0, 3)};
        LineProgramDbg x = Check.ready(1, 1, lines);
        x.setBreakpoint(1);
        x.setBreakpoint(2);
        paused("step before break before limit", x, x.stepInto(), STEP, 1, 0, 1);
        paused("step over before break", x, x.stepOver(), STEP, 2, 0, 2);
        x.restart();
        paused("break before limit", x, x.cont(), BREAK, 1, 0, 1);
        paused("break before limit, stepOut()", x, x.stepOut(), BREAK, 2, 0, 2);
        paused("limit", x, x.cont(), LIMIT, 3, 0, 3);
        finished("finish", x, x.cont(), 3);
        LineProgramDbg out = Check.ready(1, 1, Check.call(0), Check.set(0, 1), Check.proc(0), Check.ret(), Check.close());
        out.setBreakpoint(2);
        steps("into the procedure", out, 1, 0, 3, 1, 4, 1);
        paused("step out before break", out, out.stepOut(), STEP, 2, 0, 4);
    }

    private static void keepsTheBudgetPerCall() {
        LineProgramDbg x = Check.ready(1, 3, Check.set(0, 1), Check.loop(0), Check.op(1, 1, 1), Check.close());
        paused("cont()", x, x.cont(), LIMIT, 3, 0, 3);
        Check.due("the last line is not performed", x.variable(1), 0);
        paused("cont()", x, x.cont(), LIMIT, 3, 0, 6);
        Check.due("once around", x.variable(1), 1);
        paused("stepOut()", x, x.stepOut(), LIMIT, 3, 0, 9);
        LineProgramDbg y = Check.ready(4, 3, Check.call(0), Check.proc(0), Check.set(0, 1), Check.set(0, 2),
                Check.set(0, 3), Check.set(0, 4), Check.close());
        steps("to the call", y, 1, 0);
        paused("stepOver()", y, y.stepOver(), LIMIT, 4, 1, 4);
        paused("stepOut()", y, y.stepOut(), LIMIT, 7, 1, 7);
    }

    private static void finishesOrFaultsWithinTheBudget() {
        LineProgramDbg x = Check.ready(1, 3, Check.set(0, 1), Check.set(1, 1), Check.set(2, 1));
        paused("the budget ends at the last event", x, x.cont(), LIMIT, 3, 0, 3);
        finished("the finish comes with the next call", x, x.cont(), 3);
        LineProgramDbg y = Check.ready(1, 4, Check.set(0, 1), Check.set(1, 1), Check.set(2, 1));
        finished("one event to spare", y, y.cont(), 3);
        LineProgramDbg z = Check.ready(1, 3, Check.call(0), Check.proc(0), Check.call(0), Check.close());
        paused("the budget ends at the fault's event", z, z.cont(), LIMIT, 3, 1, 3);
        faulted("the fault comes with the next call", z, z.cont(), 3, 1, 3);
    }

    private static void stepsOverCalls() {
        int[][] lines = {Check.call(0), Check.set(0, 9), Check.proc(0), Check.call(1), Check.close(), Check.proc(1),
            Check.op(1, 1, 1), Check.close()};
        LineProgramDbg x = Check.ready(4, 64, lines);
        steps("to the call", x, 1, 0);
        paused("stepOver() of a call", x, x.stepOver(), STEP, 2, 0, 8);
        Check.due("the call ran", x.variable(1), 1);
        x.restart();
        x.setBreakpoint(7);
        steps("to the call", x, 1, 0);
        paused("stepOver() to a breakpoint deeper", x, x.stepOver(), BREAK, 7, 2, 5);
        paused("stepOver() from there", x, x.stepOver(), STEP, 8, 2, 6);
        paused("stepOver() of an END leaves", x, x.stepOver(), STEP, 5, 1, 7);
        paused("stepOver() of an END leaves", x, x.stepOver(), STEP, 2, 0, 8);
        finished("stepOver() to the end", x, x.stepOver(), 8);
        LineProgramDbg y = Check.ready(1, 64, lines);
        steps("to the call", y, 1, 0);
        faulted("stepOver() of a call that faults", y, y.stepOver(), 4, 1, 3);
    }

    private static void stepsOverTheSameLine() {
        // WHILE and its END alone: the END is another line, so the step ends there.
        LineProgramDbg x = Check.ready(1, 64, Check.set(0, 1), Check.loop(0), Check.close());
        steps("to the WHILE", x, 1, 0, 2, 0);
        paused("stepOver() of WHILE", x, x.stepOver(), STEP, 3, 0, 3);
        paused("stepOver() of its END", x, x.stepOver(), STEP, 2, 0, 4);
        // Recursion: the same line is met deeper, which never ends the step.
        LineProgramDbg y = Check.ready(8, 64, Check.set(0, 3), Check.call(0), Check.proc(0), Check.when(0),
                Check.op(0, 0, -1), Check.call(0), Check.close(), Check.op(1, 1, 1), Check.close());
        steps("to the inner call", y, 1, 0, 2, 0, 3, 1, 4, 1, 5, 1, 6, 1);
        paused("stepOver() of a recursive call", y, y.stepOver(), STEP, 8, 1, 23);
        Check.due("the inner ones ran", y.variable(1), 3);
        y.restart();
        steps("to the inner call", y, 1, 0, 2, 0, 3, 1, 4, 1, 5, 1, 6, 1);
        y.setBreakpoint(6);
        paused("stepOver() to a breakpoint on its own line", y, y.stepOver(), BREAK, 6, 2, 10);
        // A CALL that is all of a WHILE's body: WHILE and END lie between two events of the same line.
        LineProgramDbg z = Check.ready(1, 64, Check.set(0, 2), Check.loop(0), Check.call(0), Check.close(),
                Check.proc(0), Check.op(0, 0, -1), Check.close());
        steps("to the call", z, 1, 0, 2, 0, 3, 0);
        paused("stepOver() of the call", z, z.stepOver(), STEP, 4, 0, 7);
    }

    private static void stepsOverToAShallowerSameLine() {
        // The same END at every depth: leaving the procedure meets the line it started from, shallower.
        LineProgramDbg x = Check.ready(8, 64, Check.set(0, 2), Check.call(0), Check.proc(0), Check.when(0),
                Check.op(0, 0, -1), Check.call(0), Check.close(), Check.close());
        steps("to the innermost END", x, 1, 0, 2, 0, 3, 1, 4, 1, 5, 1, 6, 1, 3, 2, 4, 2, 5, 2, 6, 2, 3, 3, 4, 3, 8, 3);
        paused("stepOver() to the same line, shallower", x, x.stepOver(), STEP, 8, 2, 14);
        paused("stepOut() to the same line, shallower", x, x.stepOut(), STEP, 8, 1, 15);
        finished("stepOver() out of the last", x, x.stepOver(), 15);
    }

    private static void stepsOut() {
        int[][] lines = {Check.call(0), Check.set(0, 9), Check.proc(0), Check.set(1, 1), Check.call(1),
            Check.set(2, 1), Check.close(), Check.proc(1), Check.set(3, 1), Check.close()};
        LineProgramDbg x = Check.ready(4, 64, lines);
        steps("into the inner one", x, 1, 0, 3, 1, 4, 1, 5, 1, 8, 2);
        paused("stepOut() of depth 2", x, x.stepOut(), STEP, 6, 1, 8);
        paused("stepOut() of depth 1", x, x.stepOut(), STEP, 2, 0, 10);
        finished("stepOut() of depth 0", x, x.stepOut(), 10);
        x.restart();
        steps("into the outer one", x, 1, 0, 3, 1, 4, 1);
        x.setBreakpoint(9);
        paused("stepOut() to a breakpoint deeper", x, x.stepOut(), BREAK, 9, 2, 6);
        x.clearBreakpoint(9);
        x.restart();
        steps("to the call", x, 1, 0, 3, 1, 4, 1, 5, 1);
        paused("stepOut() passes deeper and equal depths", x, x.stepOut(), STEP, 2, 0, 10);
        LineProgramDbg y = Check.ready(1, 64, lines);
        steps("into the outer one", y, 1, 0, 3, 1);
        faulted("stepOut() that faults", y, y.stepOut(), 5, 1, 4);
        LineProgramDbg z = Check.ready(1, 64, Check.call(0), Check.proc(0), Check.close());
        steps("into it", z, 1, 0, 2, 1);
        finished("stepOut() that finishes", z, z.stepOut(), 3);
    }

    private static void stepsOutOfMain() {
        int[][] lines = {Check.set(0, 1), Check.call(0), Check.set(1, 1), Check.proc(0), Check.close()};
        LineProgramDbg x = Check.ready(2, 64, lines);
        finished("stepOut() of S_READY", x, x.stepOut(), 5);
        x.restart();
        steps("to depth 0", x, 1, 0);
        finished("stepOut() of depth 0", x, x.stepOut(), 5);
        x.restart();
        x.setBreakpoint(5);
        paused("stepOut() of S_READY to a breakpoint", x, x.stepOut(), BREAK, 5, 1, 4);
        LineProgramDbg y = Check.ready(2, 2, lines);
        paused("stepOut() of S_READY to the limit", y, y.stepOut(), LIMIT, 2, 0, 2);
    }

    private static void faultsAtTheDepth() {
        LineProgramDbg x = Check.ready(2, 64, Check.set(0, 4), Check.call(0), Check.proc(0), Check.op(0, 0, 1),
                Check.call(0), Check.close());
        faulted("cont()", x, x.cont(), 5, 2, 8);
        Check.due("V0", x.variable(0), 6);
        Check.due("frame 1", x.frameLine(1), 2);
        Check.due("frame 2", x.frameLine(2), 5);
        Check.due("frame 3", x.frameLine(3), 0);
        for (int way = 0; way < 4; way++) {
            x.restart();
            steps("to the call that faults", x, 1, 0, 2, 0, 3, 1, 4, 1, 5, 1, 3, 2, 4, 2, 5, 2);
            faulted("way " + way, x, resume(x, way), 5, 2, 8);
        }
    }

    private static void restartsFromEveryState() {
        LineProgramDbg editing = Check.edited(1, 64, Check.set(0, 1));
        String before = Check.look(editing);
        Check.due("restart() in S_EDITING", editing.restart(), false);
        Check.due("what stands", Check.look(editing), before);
        Check.due("compile() after it", editing.compile(), 0);
        LineProgramDbg x = Check.ready(1, 64, Check.set(0, 1), Check.set(7, 5), Check.call(0), Check.op(1, 1, 1),
                Check.ret(), Check.proc(0), Check.when(2), Check.call(0), Check.close(), Check.close());
        String fresh = Check.look(x);
        restarts("S_READY", x, LineProgramDbg.S_READY, fresh);
        x.setBreakpoint(6);
        x.cont();
        restarts("S_PAUSED", x, LineProgramDbg.S_PAUSED, fresh);
        paused("the breakpoint is kept", x, x.cont(), BREAK, 6, 1, 4);
        Check.due("the lines are kept", x.variable(7), 5);
        x.cont();
        restarts("S_FINISHED", x, LineProgramDbg.S_FINISHED, fresh);
        Check.due("the breakpoint is kept", x.clearBreakpoint(6), true);
        finished("the run after it", x, x.cont(), 8);
        Check.due("from variables of 0", x.variable(1), 1);
        LineProgramDbg y = Check.ready(1, 64, Check.set(0, 1), Check.call(0), Check.proc(0), Check.call(0),
                Check.close());
        String ready = Check.look(y);
        y.cont();
        restarts("S_FAULTED", y, LineProgramDbg.S_FAULTED, ready);
        faulted("the run after it", y, y.cont(), 4, 1, 4);
    }

    private static void restarts(String what, LineProgramDbg x, int state, String fresh) {
        Check.due("state()", x.state(), state);
        Check.due("restart() in " + what, x.restart(), true);
        Check.due("what stands after restart() in " + what, Check.look(x), fresh);
    }

    private static void wrapsAround() {
        LineProgramDbg x = Check.ready(1, 64, Check.set(0, Integer.MAX_VALUE), Check.op(1, 0, 1),
                Check.set(2, Integer.MIN_VALUE), Check.op(3, 2, -1), Check.op(4, 2, Integer.MIN_VALUE),
                Check.op(0, 0, Integer.MAX_VALUE));
        finished("cont()", x, x.cont(), 6);
        Check.due("the greatest + 1", x.variable(1), Integer.MIN_VALUE);
        Check.due("the least - 1", x.variable(3), Integer.MAX_VALUE);
        Check.due("the least twice", x.variable(4), 0);
        Check.due("the greatest twice, onto itself", x.variable(0), -2);
    }
}
