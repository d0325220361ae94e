/** Promises 11 to 16: state, current line, depth, frames, variables, event count. */
public final class QuestionsTest {
    public static void main(String[] args) {
        answersThroughARun();
        answersInAFault();
        answersTheDeepestFrames();
        answersVariables();
        countsEvents();
        Check.end();
    }

    private static void is(String what, LineProgramDbg x, int state, int line, int depth, int events) {
        Check.due(what + ": state()", x.state(), state);
        Check.due(what + ": currentLine()", x.currentLine(), line);
        Check.due(what + ": depth()", x.depth(), depth);
        Check.due(what + ": eventCount()", x.eventCount(), events);
        // Asking must not have changed anything.
        Check.due(what + ": asked again", Check.look(x), Check.look(x));
        if (line != 0) {
            Check.due(what + ": hasCode(currentLine())", x.hasCode(x.currentLine()), true);
        }
    }

    private static void frames(String what, LineProgramDbg x, int... lines) {
        for (int k : Check.around(12)) {
            int want = k >= 1 && k <= lines.length ? lines[k - 1] : 0;
            Check.due(what + ": frameLine(" + k + ")", x.frameLine(k), want);
        }
    }

    private static int[][] twoCalls() {
        return new int[][] {
            Check.set(0, 7), Check.call(2), Check.set(1, 8), Check.proc(2), Check.call(1), Check.close(),
            Check.proc(1), Check.set(2, 9), Check.close()};
    }

    private static void answersThroughARun() {
        LineProgramDbg x = Check.edited(4, 64, twoCalls());
        is("editing", x, LineProgramDbg.S_EDITING, 0, 0, 0);
        frames("editing", x);
        Check.due("compile()", x.compile(), 0);
        is("ready", x, LineProgramDbg.S_READY, 0, 0, 0);
        frames("ready", x);
        x.stepInto();
        is("first", x, LineProgramDbg.S_PAUSED, 1, 0, 1);
        frames("first", x);
        x.stepInto();
        x.stepInto();
        is("in the outer one", x, LineProgramDbg.S_PAUSED, 4, 1, 3);
        frames("in the outer one", x, 2);
        x.stepInto();
        x.stepInto();
        is("in the inner one", x, LineProgramDbg.S_PAUSED, 7, 2, 5);
        frames("in the inner one", x, 2, 5);
        x.stepOut();
        is("back in the outer one", x, LineProgramDbg.S_PAUSED, 6, 1, 8);
        frames("back in the outer one", x, 2);
        x.stepOut();
        is("back in main", x, LineProgramDbg.S_PAUSED, 3, 0, 9);
        frames("back in main", x);
        x.cont();
        is("finished", x, LineProgramDbg.S_FINISHED, 0, 0, 9);
        frames("finished", x);
        x.restart();
        x.setBreakpoint(8);
        x.cont();
        frames("in the inner one", x, 2, 5);
        x.restart();
        is("restarted", x, LineProgramDbg.S_READY, 0, 0, 0);
        frames("restarted from depth 2", x);
    }

    private static void answersInAFault() {
        LineProgramDbg x = Check.ready(1, 64, twoCalls());
        Check.due("cont()", x.cont(), LineProgramDbg.R_FAULT);
        is("faulted", x, LineProgramDbg.S_FAULTED, 5, 1, 4);
        frames("faulted", x, 2);
        Check.due("V0 is kept", x.variable(0), 7);
        x.restart();
        is("restarted", x, LineProgramDbg.S_READY, 0, 0, 0);
        frames("restarted", x);
        Check.due("V0", x.variable(0), 0);
    }

    private static void answersTheDeepestFrames() {
        LineProgramDbg x = Check.ready(8, 64, Check.call(0), Check.proc(0), Check.call(1), Check.close(),
                Check.proc(1), Check.call(0), Check.close());
        Check.due("cont()", x.cont(), LineProgramDbg.R_FAULT);
        is("faulted", x, LineProgramDbg.S_FAULTED, 6, 8, 17);
        frames("faulted", x, 1, 3, 6, 3, 6, 3, 6, 3);
    }

    private static void answersVariables() {
        LineProgramDbg x = Check.edited(1, 64);
        for (int v = 0; v < 8; v++) {
            Check.due("addLine", Check.add(x, Check.set(v, 100 + v)), v + 1);
        }
        variables("editing", x, 0);
        Check.due("compile()", x.compile(), 0);
        variables("ready", x, 0);
        for (int done = 0; done < 8; done++) {
            x.stepInto();
            variables("paused", x, done);
        }
        x.stepInto();
        Check.due("state()", x.state(), LineProgramDbg.S_FINISHED);
        variables("finished", x, 8);
        x.restart();
        variables("restarted", x, 0);
    }

    private static void variables(String what, LineProgramDbg x, int done) {
        for (int v : Check.around(40)) {
            Check.due(what + ": variable(" + v + ")", x.variable(v), v >= 0 && v < done ? 100 + v : 0);
        }
    }

    private static void countsEvents() {
        LineProgramDbg x = Check.ready(1, 4096, Check.set(0, 1), Check.loop(0), Check.close());
        for (int call = 1; call <= 50; call++) {
            x.cont();
            Check.due("eventCount() after " + call + " calls", x.eventCount(), 4096 * call);
        }
        x.stepInto();
        Check.due("eventCount() after a step", x.eventCount(), 4096 * 50 + 1);
        x.restart();
        Check.due("eventCount() after restart()", x.eventCount(), 0);
        x.stepInto();
        Check.due("eventCount() after its first step", x.eventCount(), 1);
    }
}
