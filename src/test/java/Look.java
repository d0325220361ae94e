/** What an object shows: at once through its questions, and later through what comes of it. */
final class Look {
    private Look() {
    }

    /** Every answer that the questions give, at and around the edges of their arguments. */
    static String now(LineProgramDbg x) {
        StringBuilder seen = new StringBuilder();
        seen.append("state ").append(x.state());
        seen.append(" line ").append(x.currentLine());
        seen.append(" depth ").append(x.depth());
        seen.append(" events ").append(x.eventCount());
        seen.append(" frames");
        for (int k : around(10)) {
            seen.append(' ').append(x.frameLine(k));
        }
        seen.append(" variables");
        for (int v : around(9)) {
            seen.append(' ').append(x.variable(v));
        }
        seen.append(" code ");
        for (int line : around(35)) {
            seen.append(x.hasCode(line) ? '1' : '0');
        }
        return seen.toString();
    }

    /** What the questions answer when there is no current event, no event was reached and all variables are 0. */
    static String fresh(int state, String code) {
        return "state " + state + " line 0 depth 0 events 0 frames" + " 0".repeat(14)
                + " variables" + " 0".repeat(13) + " code 000" + code + "0".repeat(36 - code.length());
    }

    /** The ends of int, -1, and 0..last. */
    static int[] around(int last) {
        int[] all = new int[last + 4];
        all[0] = Integer.MIN_VALUE;
        all[1] = -1;
        for (int i = 0; i <= last; i++) {
            all[i + 2] = i;
        }
        all[last + 3] = Integer.MAX_VALUE;
        return all;
    }

    /**
     * All that comes of an object later, which uses it up: the questions alone do not show lines,
     * breakpoints, depth limit and budget.
     */
    static String later(LineProgramDbg x) {
        StringBuilder seen = new StringBuilder();
        closeAndCompile(x, seen);
        stepToTheEnd(x, seen);
        seen.append(x.restart());
        for (int i = 0; i < 60; i++) {
            seen.append(" cont ").append(x.cont()).append(' ').append(now(x));
        }
        for (int line : around(34)) {
            seen.append(" clear ").append(x.clearBreakpoint(line));
        }
        seen.append(x.restart());
        stepToTheEnd(x, seen);
        return seen.toString();
    }

    private static void closeAndCompile(LineProgramDbg x, StringBuilder seen) {
        for (int i = 0; i < 40 && x.state() == LineProgramDbg.S_EDITING; i++) {
            seen.append(" compile ").append(x.compile());
            seen.append(" add ").append(x.addLine(LineProgramDbg.K_END, 0, 0, 0));
        }
    }

    private static void stepToTheEnd(LineProgramDbg x, StringBuilder seen) {
        for (int i = 0; i < 120; i++) {
            seen.append(" step ").append(x.stepInto()).append(' ').append(now(x));
        }
    }
}
