/** 'Programs and runs', the paragraph Events: a test for each sentence that names a boundary. */
public final class EventsTest {
    /** Procedure 0 calls itself, each time from line 4, until the depth is used up. */
    private static final String ENDLESS = "SET 0 4; CALL 0; PROC 0; CALL 0; END";

    public static void main(String[] args) {
        Check.sentence("depth is the number of active procedure calls; it is 0 in main code.",
                EventsTest::depthCountsCalls);
        Check.sentence("a run paused at an event has not yet performed that line.", EventsTest::pausedLineIsNotPerformed);
        Check.sentence("Each call pushes a frame recording its CALL line. Frames are numbered 1 (oldest) .. depth.",
                EventsTest::framesAreNumbered);
        Check.sentence("X > count: the program finishes;", EventsTest::finishesPastTheLastLine);
        Check.sentence("X is a PROC line: X = (the END of X) + 1;", EventsTest::passesOverProcedures);
        Check.sentence("X is an END closing an IF: X = X + 1;", EventsTest::passesOverIfEnds);
        Check.sentence("otherwise: the next event is (X, d).", EventsTest::stopsAtOtherEnds);
        Check.sentence("The first event of a run is SUCC(0, 0).", EventsTest::firstEvent);
        Check.sentence("SET, OP: the assignment, then SUCC(L, d).", EventsTest::assignsBeforeItFinishes);
        Check.sentence("if Va != 0 then SUCC(L, d), else SUCC(E, d) with E the END of L.", EventsTest::emptyBlocks);
        Check.sentence("END closing a WHILE opened at line W: the next event is (W, d).", EventsTest::whileIsMetAgain);
        Check.sentence("PROC: SUCC(L, d).", EventsTest::emptyProcedures);
        Check.sentence("CALL p: if d == maxDepth, the run FAULTS.", EventsTest::faultsAtTheDepth);
        Check.sentence("Nothing else changes: the event stays current, and variables and frames are unchanged.",
                EventsTest::faultChangesNothingElse);
        Check.sentence("Otherwise a frame recording L is pushed, and the next event is (P, d + 1), with P the PROC line"
                + " of procedure p.", EventsTest::callsUpToTheDepth);
        Check.sentence("RET, or END closing a PROC: if d == 0, the program finishes.", EventsTest::retFinishesAtDepth0);
        Check.sentence("Otherwise the newest frame, recording line C, is popped, and SUCC(C, d - 1) follows.",
                EventsTest::goesOnAfterTheCall);
        Check.end();
    }

    private static void depthCountsCalls() {
        Run.whole(Program.ready(2, 64, "IF 0; END; CALL 0; WHILE 0; END; CALL 0; RET; PROC 0; CALL 1; END; PROC 1; END"),
                "1 3 8/1 9/1 11/2 12/2 10/1 4 6 8/1 9/1 11/2 12/2 10/1 7");
    }

    private static void pausedLineIsNotPerformed() {
        LineProgramDbg x = Program.ready(1, 2, "SET 0 1; SET 0 2; SET 0 3; SET 0 4");
        x.setBreakpoint(3);
        x.stepInto();
        Check.due("V0 after R_STEP at line 1", x.variable(0), 0);
        x.cont();
        Check.due("V0 after R_BREAK at line 3", x.variable(0), 2);
        x.restart();
        Run.pauses(x, "cont()", Run.LIMIT, 2, 0, 2);
        Check.due("V0 after R_LIMIT at line 2", x.variable(0), 1);
        LineProgramDbg call = Program.ready(1, 1, "CALL 0; PROC 0; END");
        Run.pauses(call, "cont()", Run.LIMIT, 1, 0, 1);
        Run.frames(call);
        Run.steps(call, "2/1 3/1");
        Run.frames(call, 1);
    }

    private static void framesAreNumbered() {
        LineProgramDbg x = Program.ready(8, 64, "SET 0 0; CALL 2; RET; PROC 2; CALL 1; END; PROC 1; CALL 2; END");
        int[] frames = new int[0];
        Run.steps(x, "1 2");
        for (int depth = 1; depth <= 8; depth++) {
            Run.frames(x, frames);
            int proc = depth % 2 == 1 ? 4 : 7;
            frames = java.util.Arrays.copyOf(frames, depth);
            frames[depth - 1] = x.currentLine();
            Run.steps(x, proc + "/" + depth);
            Run.frames(x, frames);
            Run.steps(x, (proc + 1) + "/" + depth);
        }
        Run.frames(x, 2, 5, 8, 5, 8, 5, 8, 5);
    }

    private static void finishesPastTheLastLine() {
        Run.finishes(Program.ready(1, 64, ""), "stepInto()", 0);
        Run.whole(Program.ready(1, 64, "SET 0 1"), "1");
        Run.finishes(Program.ready(1, 64, Program.times(32, "SET 0 1")), "cont()", 32);
        // Line 32 is passed over, or left from, in each of the ways there are.
        Run.finishes(Program.ready(1, 64, Program.times(30, "SET 0 1") + "; IF 0; END"), "cont()", 32 - 1);
        Run.finishes(Program.ready(1, 64, Program.times(30, "SET 0 1") + "; WHILE 1; END"), "cont()", 32 - 1);
        Run.finishes(Program.ready(1, 64, Program.times(30, "SET 0 1") + "; PROC 0; END"), "cont()", 32 - 2);
        Run.finishes(Program.ready(1, 4096, "PROC 0; END; " + Program.times(30, "CALL 0")), "cont()", 30 * 3);
    }

    private static void passesOverProcedures() {
        String proc = "; IF 0; SET 1 1; END; WHILE 0; END; RET; END";
        Run.whole(Program.ready(1, 64, "PROC 0" + proc + "; SET 0 1"), "9");
        Run.whole(Program.ready(1, 64, "SET 0 1; PROC 0" + proc), "1");
        Run.whole(Program.ready(1, 64, "SET 0 1; PROC 0" + proc + "; PROC 1; END; PROC 2; END; PROC 3; END; SET 0 2"),
                "1 16");
        Run.finishes(Program.ready(1, 64, "PROC 0" + proc + "; PROC 1" + proc + "; PROC 2" + proc + "; PROC 3" + proc),
                "stepInto()", 0);
    }

    private static void passesOverIfEnds() {
        Run.whole(Program.ready(1, 64, "SET 0 1; IF 0; IF 0; IF 0; END; END; END; SET 0 2"), "1 2 3 4 8");
        Run.whole(Program.ready(1, 64, "SET 0 1; IF 0; IF 0; IF 0; END; END; END"), "1 2 3 4");
        // IF ENDs and procedures in turn, to a line and to the end.
        String mixed = "SET 0 1; IF 0; SET 1 1; END; PROC 0; END; PROC 1; END; IF 0; END";
        Run.whole(Program.ready(1, 64, mixed + "; PROC 2; END; RET"), "1 2 3 9 13");
        Run.whole(Program.ready(1, 64, mixed + "; PROC 2; END"), "1 2 3 9");
        Run.finishes(Program.ready(1, 64, "SET 0 1; " + Program.times(15, "IF 0") + "; " + Program.times(15, "END")),
                "cont()", 16);
    }

    private static void stopsAtOtherEnds() {
        Run.whole(Program.ready(1, 64, "SET 0 1; WHILE 0; SET 0 0; IF 1; END; END"), "1 2 3 4 6 2");
        Run.whole(Program.ready(1, 64, "CALL 0; PROC 0; IF 1; END; END"), "1 2/1 3/1 5/1");
    }

    private static void firstEvent() {
        for (String way : Run.WAYS) {
            Run.finishes(Program.ready(1, 64, ""), way, 0);
            Run.finishes(Program.ready(1, 64, "PROC 0; RET; END"), way, 0);
        }
        Run.whole(Program.ready(1, 64, "SET 0 1"), "1");
        Run.whole(Program.ready(1, 64, "PROC 3; RET; END; PROC 1; END; WHILE 0; END"), "6");
    }

    private static void assignsBeforeItFinishes() {
        for (String way : Run.WAYS) {
            LineProgramDbg x = Program.ready(1, 64, "SET 0 7");
            Run.steps(x, "1");
            Run.finishes(x, way, 1);
            Check.due("V0 set by the last line", x.variable(0), 7);
            LineProgramDbg y = Program.ready(1, 64, "OP 0 0 -7; PROC 0; END");
            Run.steps(y, "1");
            Run.finishes(y, way, 1);
            Check.due("V0 of OP on the last line", y.variable(0), -7);
        }
    }

    private static void emptyBlocks() {
        Run.whole(Program.ready(1, 64, "SET 0 1; IF 0; END; RET"), "1 2 4");
        Run.whole(Program.ready(1, 64, "SET 0 0; IF 0; END; RET"), "1 2 4");
        Run.whole(Program.ready(1, 64, "SET 0 0; WHILE 0; END; RET"), "1 2 4");
        Run.steps(Program.ready(1, 64, "SET 0 1; WHILE 0; END; RET"), "1 2 3 2 3 2 3");
        // An END at the very end, with a procedure behind it, with another END behind it.
        Run.whole(Program.ready(1, 64, "SET 0 0; IF 0; SET 1 1; END"), "1 2");
        Run.whole(Program.ready(1, 64, "SET 0 0; WHILE 0; SET 1 1; END"), "1 2");
        Run.whole(Program.ready(1, 64, "WHILE 0; SET 1 1; END; PROC 0; END; RET"), "1 6");
        Run.whole(Program.ready(1, 64, "SET 1 1; IF 1; IF 0; SET 2 1; END; END; RET"), "1 2 3 7");
        Run.whole(Program.ready(1, 64, "SET 1 1; WHILE 1; SET 1 0; WHILE 0; SET 2 1; END; END; RET"), "1 2 3 4 7 2 8");
        Run.whole(Program.ready(1, 64, "CALL 0; PROC 0; IF 0; SET 2 1; END; END"), "1 2/1 3/1 6/1");
        Run.whole(Program.ready(1, 64, "CALL 0; PROC 0; WHILE 0; SET 2 1; END; END"), "1 2/1 3/1 6/1");
    }

    private static void whileIsMetAgain() {
        // Even when the variable is 0 by then, the WHILE line is an event once more.
        Run.whole(Program.ready(1, 64, "SET 0 1; WHILE 0; SET 0 0; END"), "1 2 3 4 2");
        Run.whole(Program.ready(1, 64, "SET 0 2; WHILE 0; OP 0 0 -1; END; RET"), "1 2 3 4 2 3 4 2 5");
        Run.whole(Program.ready(1, 64, "CALL 0; PROC 0; SET 0 1; WHILE 0; SET 0 0; END; END"),
                "1 2/1 3/1 4/1 5/1 6/1 4/1 7/1");
        // The WHILE that the END closes, not the nearest one above it.
        Run.whole(Program.ready(1, 64, "SET 0 1; WHILE 0; WHILE 1; END; SET 0 0; END"), "1 2 3 5 6 2");
    }

    private static void emptyProcedures() {
        Run.whole(Program.ready(1, 64, "CALL 0; PROC 0; END"), "1 2/1 3/1");
        Run.whole(Program.ready(1, 64, "PROC 0; END; CALL 0"), "3 1/1 2/1");
        Run.whole(Program.ready(1, 64, "CALL 0; PROC 0; IF 0; END; END"), "1 2/1 3/1 5/1");
    }

    private static void faultsAtTheDepth() {
        for (int maxDepth = 1; maxDepth <= 8; maxDepth++) {
            LineProgramDbg x = Program.ready(maxDepth, 64, ENDLESS);
            Run.faults(x, "cont()", 4, maxDepth, 2 + 2 * maxDepth);
        }
    }

    private static void faultChangesNothingElse() {
        for (String way : Run.WAYS) {
            LineProgramDbg x = Program.ready(2, 64, ENDLESS);
            x.setBreakpoint(4);
            Run.steps(x, "1 2 3/1 4/1 3/2 4/2");
            String before = Look.now(x);
            Run.faults(x, way, 4, 2, 6);
            Check.due("all but the state after " + way, Look.now(x), before.replace("state 2", "state 4"));
            Run.frames(x, 2, 4);
            Check.due("V0", x.variable(0), 4);
        }
    }

    private static void callsUpToTheDepth() {
        for (int maxDepth = 1; maxDepth <= 8; maxDepth++) {
            LineProgramDbg x = Program.ready(maxDepth, 64, ENDLESS);
            Run.steps(x, "1 2");
            for (int depth = 1; depth <= maxDepth; depth++) {
                Run.steps(x, "3/" + depth);
                Check.due("frameLine(depth())", x.frameLine(depth), depth == 1 ? 2 : 4);
                Run.steps(x, "4/" + depth);
            }
            Run.faults(x, "stepInto()", 4, maxDepth, 2 + 2 * maxDepth);
        }
    }

    private static void retFinishesAtDepth0() {
        for (String way : Run.WAYS) {
            LineProgramDbg x = Program.ready(1, 64, "CALL 0; RET; SET 0 1; PROC 0; RET; END");
            Run.steps(x, "1 4/1 5/1 2");
            Run.finishes(x, way, 4);
            Check.due("V0, which is set behind the RET", x.variable(0), 0);
        }
    }

    private static void goesOnAfterTheCall() {
        // The CALL is followed by a line, an IF END, a WHILE END, a procedure, the end.
        Run.whole(Program.ready(1, 64, "CALL 0; RET; PROC 0; END"), "1 3/1 4/1 2");
        Run.whole(Program.ready(1, 64, "SET 0 1; IF 0; CALL 0; END; RET; PROC 0; RET; END"), "1 2 3 6/1 7/1 5");
        Run.whole(Program.ready(1, 64, "SET 0 1; WHILE 0; CALL 0; END; RET; PROC 0; SET 0 0; END"),
                "1 2 3 6/1 7/1 8/1 4 2 5");
        Run.whole(Program.ready(1, 64, "CALL 0; PROC 0; END; RET"), "1 2/1 3/1 4");
        Run.whole(Program.ready(1, 64, "PROC 0; END; CALL 0"), "3 1/1 2/1");
        // Each return takes the newest frame, from the greatest depth down.
        LineProgramDbg x = Program.ready(8, 64, "SET 0 7; CALL 0; PROC 0; IF 0; OP 0 0 -1; CALL 0; END; OP 1 1 1; END");
        x.setBreakpoint(9);
        Run.pauses(x, "cont()", Run.BREAK, 9, 8, 2 + 7 * 4 + 4);
        for (int depth = 7; depth >= 1; depth--) {
            Run.steps(x, "8/" + depth + " 9/" + depth);
            Check.due("frameLine(depth() + 1)", x.frameLine(depth + 1), 0);
            Check.due("frameLine(depth())", x.frameLine(depth), depth == 1 ? 2 : 6);
        }
        Run.finishes(x, "cont()", 2 + 7 * 4 + 4 + 14);
    }
}
