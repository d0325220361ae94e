/** Promises 1, 2 and 3: construction, adding a line, compiling. */
public final class EditingTest {
    private static final int[] WILD = {Integer.MIN_VALUE, -1, 8, 99, Integer.MAX_VALUE};

    public static void main(String[] args) {
        startsEmpty();
        clampsDepth();
        clampsBudget();
        numbersLines();
        refusesKinds();
        refusesOperands();
        ignoresUnlistedOperands();
        takesAnyNumber();
        refusesTheThirtyThirdLine();
        refusesLinesAfterCompile();
        addingChangesNothingElse();
        compilesOnce();
        findsTheFirstWrongLine();
        findsTheOpenBlock();
        findsTheCallOfNoProcedure();
        mayBeMendedAfterAFailure();
        Check.end();
    }

    private static String empty() {
        return "state 0 line 0 depth 0 events 0 frames" + " 0".repeat(14)
                + " variables" + " 0".repeat(13) + " code " + "0".repeat(39);
    }

    private static void startsEmpty() {
        int[] wild = {Integer.MIN_VALUE, -1, 0, 1, 8, 9, 4096, 4097, Integer.MAX_VALUE};
        for (int depth : wild) {
            for (int budget : wild) {
                Check.due("a new object " + depth + " " + budget, Check.look(new LineProgramDbg(depth, budget)), empty());
            }
        }
        Check.due("count at the start", new LineProgramDbg(1, 1).addLine(5, 0, 0, 0), 1);
    }

    private static void clampsDepth() {
        int[][] pairs = {{Integer.MIN_VALUE, 1}, {-1, 1}, {0, 1}, {1, 1}, {2, 2}, {5, 5}, {7, 7}, {8, 8}, {9, 8},
            {Integer.MAX_VALUE, 8}};
        for (int[] pair : pairs) {
            // Procedure 0 calls itself until the depth is used up.
            LineProgramDbg x = Check.ready(pair[0], 4096, Check.call(0), Check.proc(0), Check.call(0), Check.close());
            Check.due("cont() to the fault", x.cont(), LineProgramDbg.R_FAULT);
            Check.due("greatest depth for " + pair[0], x.depth(), pair[1]);
        }
    }

    private static void clampsBudget() {
        int[][] pairs = {{Integer.MIN_VALUE, 1}, {-1, 1}, {0, 1}, {1, 1}, {2, 2}, {4095, 4095}, {4096, 4096},
            {4097, 4096}, {Integer.MAX_VALUE, 4096}};
        for (int[] pair : pairs) {
            LineProgramDbg x = Check.ready(1, pair[0], Check.set(0, 1), Check.loop(0), Check.close());
            Check.due("cont() to the limit", x.cont(), LineProgramDbg.R_LIMIT);
            Check.due("events of one call for " + pair[0], x.eventCount(), pair[1]);
        }
    }

    private static void numbersLines() {
        Check.edited(1, 1, Check.set(7, 3), Check.op(7, 7, 1), Check.when(7), Check.loop(7), Check.close(),
                Check.proc(3), Check.call(3), Check.ret());
    }

    private static void refusesKinds() {
        LineProgramDbg x = new LineProgramDbg(1, 1);
        for (int kind : new int[] {Integer.MIN_VALUE, -1, 0, 9, 10, Integer.MAX_VALUE}) {
            Check.due("addLine of kind " + kind, x.addLine(kind, 0, 0, 0), 0);
        }
        Check.due("the line after refusals", x.addLine(8, 0, 0, 0), 1);
    }

    private static void refusesOperands() {
        LineProgramDbg x = new LineProgramDbg(1, 1);
        for (int v : WILD) {
            Check.due("SET of variable " + v, x.addLine(1, v, 0, 0), 0);
            Check.due("OP to variable " + v, x.addLine(2, v, 0, 0), 0);
            Check.due("OP from variable " + v, x.addLine(2, 0, v, 0), 0);
            Check.due("IF of variable " + v, x.addLine(3, v, 0, 0), 0);
            Check.due("WHILE of variable " + v, x.addLine(4, v, 0, 0), 0);
        }
        for (int p : new int[] {Integer.MIN_VALUE, -1, 4, 7, 8, Integer.MAX_VALUE}) {
            Check.due("PROC of procedure " + p, x.addLine(6, p, 0, 0), 0);
            Check.due("CALL of procedure " + p, x.addLine(7, p, 0, 0), 0);
        }
        Check.due("the line after refusals", x.addLine(8, 0, 0, 0), 1);
        int line = 1;
        for (int v = 0; v < 8; v++) {
            line++;
            Check.due("OP of variable " + v, x.addLine(2, v, 7 - v, 0), line);
        }
        for (int p = 0; p < 4; p++) {
            line++;
            Check.due("CALL of procedure " + p, x.addLine(7, p, 0, 0), line);
            line++;
            Check.due("PROC of procedure " + p, x.addLine(6, p, 0, 0), line);
        }
    }

    private static void ignoresUnlistedOperands() {
        for (int w : WILD) {
            LineProgramDbg x = new LineProgramDbg(1, 4096);
            Check.due("SET", x.addLine(1, 0, 5, w), 1);
            Check.due("IF", x.addLine(3, 0, w, w), 2);
            Check.due("WHILE", x.addLine(4, 1, w, w), 3);
            Check.due("END", x.addLine(5, w, w, w), 4);
            Check.due("END", x.addLine(5, w, w, w), 5);
            Check.due("CALL", x.addLine(7, 0, w, w), 6);
            Check.due("RET", x.addLine(8, w, w, w), 7);
            Check.due("PROC", x.addLine(6, 0, w, w), 8);
            Check.due("END", x.addLine(5, w, w, w), 9);
            Check.due("compile()", x.compile(), 0);
            Check.due("the run", Check.at(x, x.cont()), Check.row(4, 3, 0, 0, 7));
            Check.due("the set variable", x.variable(0), 5);
        }
    }

    private static void takesAnyNumber() {
        for (int b : new int[] {Integer.MIN_VALUE, -1, 0, 1, 8, Integer.MAX_VALUE}) {
            LineProgramDbg x = Check.ready(1, 9, Check.set(3, b), Check.op(4, 3, b));
            x.cont();
            Check.due("SET to " + b, x.variable(3), b);
            Check.due("OP with " + b, x.variable(4), b + b);
        }
    }

    private static void refusesTheThirtyThirdLine() {
        LineProgramDbg x = new LineProgramDbg(1, 64);
        for (int line = 1; line <= 32; line++) {
            Check.due("addLine of line " + line, x.addLine(2, 0, 0, 1), line);
        }
        for (int kind = 0; kind <= 9; kind++) {
            Check.due("addLine past the last, kind " + kind, x.addLine(kind, 0, 0, 0), 0);
        }
        Check.due("compile() of a full program", x.compile(), 0);
        Check.due("a full run", Check.at(x, x.cont()), Check.row(4, 3, 0, 0, 32));
        Check.due("every line ran", x.variable(0), 32);
    }

    private static void refusesLinesAfterCompile() {
        LineProgramDbg x = Check.ready(1, 64, Check.set(0, 1), Check.call(0), Check.proc(0), Check.call(0), Check.close());
        refusesLine(x, "S_READY");
        x.stepInto();
        refusesLine(x, "S_PAUSED");
        x.cont();
        Check.due("state()", x.state(), LineProgramDbg.S_FAULTED);
        refusesLine(x, "S_FAULTED");
        LineProgramDbg y = Check.ready(1, 64);
        y.cont();
        Check.due("state()", y.state(), LineProgramDbg.S_FINISHED);
        refusesLine(y, "S_FINISHED");
    }

    private static void refusesLine(LineProgramDbg x, String state) {
        String before = Check.look(x);
        Check.due("addLine in " + state, x.addLine(1, 0, 0, 0), 0);
        Check.due("what stands after it", Check.look(x), before);
    }

    private static void addingChangesNothingElse() {
        LineProgramDbg x = new LineProgramDbg(1, 1);
        String before = Check.look(x);
        for (int i = 0; i < 40; i++) {
            x.addLine(i % 11, i % 9, i % 10, i);
            Check.due("what stands after addLine", Check.look(x), before);
        }
    }

    private static void compilesOnce() {
        LineProgramDbg x = new LineProgramDbg(1, 64);
        Check.due("compile() of no lines", x.compile(), 0);
        Check.due("state()", x.state(), LineProgramDbg.S_READY);
        Check.due("a second compile()", x.compile(), -1);
        LineProgramDbg y = Check.ready(1, 64, Check.set(0, 5), Check.call(0), Check.proc(0), Check.call(0), Check.close());
        Check.due("what stands", Check.look(y), "state 1 line 0 depth 0 events 0 frames" + " 0".repeat(14)
                + " variables" + " 0".repeat(13) + " code 000" + "1".repeat(5) + "0".repeat(31));
        Check.due("compile() in S_READY", y.compile(), -1);
        y.setBreakpoint(2);
        y.cont();
        String paused = Check.look(y);
        Check.due("compile() in S_PAUSED", y.compile(), -1);
        Check.due("what stands", Check.look(y), paused);
        Check.due("the breakpoint after it", y.clearBreakpoint(2), true);
        y.cont();
        String faulted = Check.look(y);
        Check.due("compile() in S_FAULTED", y.compile(), -1);
        Check.due("what stands", Check.look(y), faulted);
        x.cont();
        Check.due("compile() in S_FINISHED", x.compile(), -1);
        Check.due("state()", x.state(), LineProgramDbg.S_FINISHED);
    }

    private static void refusesCompile(String what, int answer, int[]... lines) {
        LineProgramDbg x = Check.edited(4, 64, lines);
        Check.due(what, x.compile(), answer);
        Check.due(what + ", what stands", Check.look(x), empty());
        Check.due(what + ", again", x.compile(), answer);
        Check.due(what + ", lines kept", Check.add(x, Check.ret()), lines.length + 1);
    }

    private static void findsTheFirstWrongLine() {
        refusesCompile("END alone", 1, Check.close());
        refusesCompile("END too many", 3, Check.when(0), Check.close(), Check.close(), Check.close());
        refusesCompile("PROC in IF", 2, Check.when(0), Check.proc(0), Check.close(), Check.close());
        refusesCompile("PROC in WHILE", 2, Check.loop(0), Check.proc(0), Check.close(), Check.close());
        refusesCompile("PROC in PROC", 3, Check.ret(), Check.proc(1), Check.proc(0), Check.close(), Check.close());
        refusesCompile("PROC twice", 3, Check.proc(2), Check.close(), Check.proc(2), Check.close());
        refusesCompile("PROC twice, others between", 5, Check.proc(2), Check.close(), Check.proc(0), Check.close(),
                Check.proc(2), Check.close());
        refusesCompile("PROC twice before END too many", 3, Check.proc(2), Check.close(), Check.proc(2),
                Check.close(), Check.close());
        refusesCompile("END too many before PROC twice", 3, Check.proc(2), Check.close(), Check.close(),
                Check.proc(2), Check.close());
        refusesCompile("a wrong line before an unknown CALL", 2, Check.call(0), Check.close());
        refusesCompile("a wrong line before an open block", 1, Check.close(), Check.loop(0));
    }

    private static void findsTheOpenBlock() {
        refusesCompile("IF open", 2, Check.when(0));
        refusesCompile("WHILE open", 3, Check.loop(0), Check.ret());
        refusesCompile("PROC open", 2, Check.proc(0));
        refusesCompile("the outer one open", 4, Check.loop(0), Check.when(0), Check.close());
        refusesCompile("open before an unknown CALL", 3, Check.call(0), Check.when(0));
        int[][] full = new int[32][];
        for (int i = 0; i < 32; i++) {
            full[i] = Check.when(i % 8);
        }
        LineProgramDbg x = Check.edited(1, 1, full);
        Check.due("a full program of open blocks", x.compile(), 33);
    }

    private static void findsTheCallOfNoProcedure() {
        refusesCompile("CALL of none", 1, Check.call(0));
        refusesCompile("the least CALL of none", 4, Check.call(1), Check.proc(1), Check.close(), Check.call(2),
                Check.call(0));
        refusesCompile("CALL of none in a PROC", 2, Check.proc(0), Check.call(3), Check.close(), Check.call(2));
        Check.ready(1, 1, Check.call(3), Check.proc(3), Check.call(3), Check.close(), Check.call(3));
    }

    private static void mayBeMendedAfterAFailure() {
        LineProgramDbg x = Check.edited(2, 64, Check.call(0), Check.proc(0));
        Check.due("compile() with PROC open", x.compile(), 3);
        Check.due("addLine of OP", Check.add(x, Check.op(1, 1, 2)), 3);
        Check.due("addLine of END", Check.add(x, Check.close()), 4);
        Check.due("addLine of CALL", Check.add(x, Check.call(1)), 5);
        Check.due("compile() with a CALL of none", x.compile(), 5);
        Check.due("addLine of PROC", Check.add(x, Check.proc(1)), 6);
        Check.due("addLine of END", Check.add(x, Check.close()), 7);
        Check.due("compile() of the mended program", x.compile(), 0);
        Check.due("its run", Check.at(x, x.cont()), Check.row(4, 3, 0, 0, 7));
        Check.due("its variable", x.variable(1), 2);
    }
}
