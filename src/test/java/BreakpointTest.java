/** Promises 4, 5 and 17: setting and clearing a breakpoint, and which lines have code. */
public final class BreakpointTest {
    public static void main(String[] args) {
        everyKindHasCode();
        hasNoCodeWhileEditing();
        slidesToTheNextCode();
        refusesWhereNoCodeFollows();
        refusesWrongLines();
        refusesWhileEditing();
        worksInEveryOtherState();
        setsTwiceAndClearsOnce();
        clearsOnlyTheLineItself();
        refusesWrongClears();
        stopsAtWhatWasSetAlone();
        Check.end();
    }

    /** Lines 6, 7 and 14 are ENDs of IFs: 6 and 7 lie together, 14 is the last. */
    private static int[][] nested() {
        return new int[][] {
            Check.set(0, 1), Check.loop(0), Check.when(0), Check.when(0), Check.op(0, 0, -1), Check.close(),
            Check.close(), Check.close(), Check.call(0), Check.proc(0), Check.ret(), Check.close(), Check.when(2),
            Check.close()};
    }

    private static void everyKindHasCode() {
        LineProgramDbg x = Check.ready(1, 64, nested());
        for (int line : Check.around(40)) {
            boolean want = line >= 1 && line <= 14 && line != 6 && line != 7 && line != 14;
            Check.due("hasCode(" + line + ")", x.hasCode(line), want);
        }
    }

    private static void hasNoCodeWhileEditing() {
        LineProgramDbg x = Check.edited(1, 64, nested());
        for (int line : Check.around(40)) {
            Check.due("hasCode(" + line + ") in S_EDITING", x.hasCode(line), false);
        }
        LineProgramDbg y = Check.edited(1, 64, Check.set(0, 1), Check.loop(0));
        Check.due("compile()", y.compile(), 3);
        Check.due("hasCode(1) after a failed compile", y.hasCode(1), false);
    }

    private static void slidesToTheNextCode() {
        LineProgramDbg x = Check.ready(1, 64, nested());
        String before = Check.look(x);
        for (int line = 1; line <= 13; line++) {
            Check.due("setBreakpoint(" + line + ")", x.setBreakpoint(line), line == 6 || line == 7 ? 8 : line);
        }
        Check.due("what stands after it", Check.look(x), before);
        for (int line = 1; line <= 14; line++) {
            Check.due("clearBreakpoint(" + line + ")", x.clearBreakpoint(line), line != 6 && line != 7 && line != 14);
        }
    }

    private static void refusesWhereNoCodeFollows() {
        LineProgramDbg x = Check.ready(1, 64, nested());
        Check.due("setBreakpoint(14) at the last END", x.setBreakpoint(14), 0);
        LineProgramDbg y = Check.ready(1, 64, Check.when(0), Check.when(0), Check.close(), Check.close());
        Check.due("setBreakpoint(2)", y.setBreakpoint(2), 2);
        Check.due("setBreakpoint(3)", y.setBreakpoint(3), 0);
        Check.due("setBreakpoint(4)", y.setBreakpoint(4), 0);
        Check.due("clearBreakpoint(3)", y.clearBreakpoint(3), false);
        Check.due("clearBreakpoint(4)", y.clearBreakpoint(4), false);
    }

    private static void refusesWrongLines() {
        LineProgramDbg x = Check.ready(1, 64, Check.set(0, 1), Check.set(0, 2));
        for (int line : new int[] {Integer.MIN_VALUE, -1, 0, 3, 32, 33, 34, Integer.MAX_VALUE}) {
            Check.due("setBreakpoint(" + line + ")", x.setBreakpoint(line), 0);
        }
        Check.due("cont()", x.cont(), LineProgramDbg.R_FINISHED);
        LineProgramDbg none = Check.ready(1, 64);
        for (int line : Check.around(34)) {
            Check.due("setBreakpoint(" + line + ") of no lines", none.setBreakpoint(line), 0);
            Check.due("clearBreakpoint(" + line + ") of no lines", none.clearBreakpoint(line), false);
        }
    }

    private static void refusesWhileEditing() {
        LineProgramDbg x = Check.edited(1, 64, Check.set(0, 1), Check.set(0, 2));
        Check.due("setBreakpoint(1) in S_EDITING", x.setBreakpoint(1), 0);
        Check.due("clearBreakpoint(1) in S_EDITING", x.clearBreakpoint(1), false);
        Check.due("compile()", x.compile(), 0);
        Check.due("clearBreakpoint(1) after compile", x.clearBreakpoint(1), false);
        Check.due("cont()", x.cont(), LineProgramDbg.R_FINISHED);
    }

    private static void worksInEveryOtherState() {
        int[][] lines = {Check.set(0, 9), Check.call(0), Check.proc(0), Check.when(1), Check.ret(), Check.close(),
            Check.call(0), Check.close()};
        LineProgramDbg x = Check.ready(1, 64, lines);
        setsAndClears(x, LineProgramDbg.S_READY);
        x.stepInto();
        x.stepInto();
        x.stepInto();
        setsAndClears(x, LineProgramDbg.S_PAUSED);
        x.cont();
        setsAndClears(x, LineProgramDbg.S_FAULTED);
        LineProgramDbg y = Check.ready(1, 64, Check.set(1, 4), Check.ret(), Check.when(0), Check.ret(), Check.ret(),
                Check.close(), Check.ret());
        y.cont();
        setsAndClears(y, LineProgramDbg.S_FINISHED);
    }

    private static void setsAndClears(LineProgramDbg x, int state) {
        String before = Check.look(x);
        Check.due("state()", x.state(), state);
        Check.due("setBreakpoint(6) in state " + state, x.setBreakpoint(6), 7);
        Check.due("what stands after it", Check.look(x), before);
        Check.due("clearBreakpoint(7) in state " + state, x.clearBreakpoint(7), true);
        Check.due("what stands after it", Check.look(x), before);
        Check.due("clearBreakpoint(7) again", x.clearBreakpoint(7), false);
        Check.due("what stands after it", Check.look(x), before);
    }

    private static void setsTwiceAndClearsOnce() {
        LineProgramDbg x = Check.ready(1, 64, Check.set(0, 1), Check.set(0, 2));
        Check.due("setBreakpoint(2)", x.setBreakpoint(2), 2);
        Check.due("setBreakpoint(2) again", x.setBreakpoint(2), 2);
        Check.due("clearBreakpoint(2)", x.clearBreakpoint(2), true);
        Check.due("cont()", x.cont(), LineProgramDbg.R_FINISHED);
        Check.due("clearBreakpoint(2) again", x.clearBreakpoint(2), false);
    }

    private static void clearsOnlyTheLineItself() {
        LineProgramDbg x = Check.ready(1, 64, nested());
        Check.due("setBreakpoint(6)", x.setBreakpoint(6), 8);
        Check.due("clearBreakpoint(6) does not slide", x.clearBreakpoint(6), false);
        Check.due("clearBreakpoint(7) does not slide", x.clearBreakpoint(7), false);
        x.setBreakpoint(9);
        Check.due("clearBreakpoint(8)", x.clearBreakpoint(8), true);
        Check.due("the other one stays", Check.at(x, x.cont()), Check.row(2, 2, 9, 0, 8));
    }

    private static void refusesWrongClears() {
        LineProgramDbg x = Check.ready(1, 64, Check.set(0, 1), Check.set(0, 2));
        x.setBreakpoint(1);
        for (int line : new int[] {Integer.MIN_VALUE, -1, 0, 2, 3, 33, 34, Integer.MAX_VALUE}) {
            Check.due("clearBreakpoint(" + line + ")", x.clearBreakpoint(line), false);
        }
        Check.due("cont()", Check.at(x, x.cont()), Check.row(2, 2, 1, 0, 1));
    }

    private static void stopsAtWhatWasSetAlone() {
        for (int line = 1; line <= 32; line++) {
            LineProgramDbg x = new LineProgramDbg(1, 64);
            for (int i = 0; i < 32; i++) {
                x.addLine(LineProgramDbg.K_OP, 0, 0, 1);
            }
            Check.due("compile()", x.compile(), 0);
            Check.due("setBreakpoint(" + line + ")", x.setBreakpoint(line), line);
            Check.due("cont() to it", Check.at(x, x.cont()), Check.row(2, 2, line, 0, line));
            Check.due("the line is not performed", x.variable(0), line - 1);
            Check.due("cont() past it", Check.at(x, x.cont()), Check.row(4, 3, 0, 0, 32));
        }
    }
}
