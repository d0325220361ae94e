/** Resuming, and where it is due to lead. */
final class Run {
    static final int REFUSED = LineProgramDbg.R_REFUSED;
    static final int STEP = LineProgramDbg.R_STEP;
    static final int BREAK = LineProgramDbg.R_BREAK;
    static final int LIMIT = LineProgramDbg.R_LIMIT;
    static final int FINISHED = LineProgramDbg.R_FINISHED;
    static final int FAULT = LineProgramDbg.R_FAULT;

    static final String[] WAYS = {"cont()", "stepInto()", "stepOver()", "stepOut()"};

    private Run() {
    }

    static int resume(LineProgramDbg x, String way) {
        switch (way) {
            case "cont()":
                return x.cont();
            case "stepInto()":
                return x.stepInto();
            case "stepOver()":
                return x.stepOver();
            default:
                return x.stepOut();
        }
    }

    private static String row(int answer, int state, int line, int depth, int events) {
        return answer + " (state " + state + ", line " + line + ", depth " + depth + ", events " + events + ")";
    }

    private static void leads(LineProgramDbg x, String way, String want) {
        int answer = resume(x, way);
        Check.due(way, row(answer, x.state(), x.currentLine(), x.depth(), x.eventCount()), want);
    }

    static void pauses(LineProgramDbg x, String way, int answer, int line, int depth, int events) {
        leads(x, way, row(answer, LineProgramDbg.S_PAUSED, line, depth, events));
    }

    static void finishes(LineProgramDbg x, String way, int events) {
        leads(x, way, row(FINISHED, LineProgramDbg.S_FINISHED, 0, 0, events));
    }

    static void faults(LineProgramDbg x, String way, int line, int depth, int events) {
        leads(x, way, row(FAULT, LineProgramDbg.S_FAULTED, line, depth, events));
    }

    /** Steps into and expects these events; "9/1" is line 9 at depth 1, "9" is line 9 at depth 0. */
    static void steps(LineProgramDbg x, String events) {
        for (String event : events.split(" ")) {
            String[] parts = event.split("/");
            int depth = parts.length == 1 ? 0 : Integer.parseInt(parts[1]);
            pauses(x, "stepInto()", STEP, Integer.parseInt(parts[0]), depth, x.eventCount() + 1);
        }
    }

    /** A whole run from S_READY: these events, then the finish. */
    static void whole(LineProgramDbg x, String events) {
        steps(x, events);
        finishes(x, "stepInto()", events.split(" ").length);
    }

    static void frames(LineProgramDbg x, int... lines) {
        for (int k : Look.around(12)) {
            int want = k >= 1 && k <= lines.length ? lines[k - 1] : 0;
            Check.due("frameLine(" + k + ")", x.frameLine(k), want);
        }
    }
}
