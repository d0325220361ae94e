import java.util.ArrayList;
import java.util.List;
import java.util.function.Function;

/** What an object shows: at once through its questions, and later through what comes of it. */
final class Look {
    private Look() {
    }

    /** Every answer that the questions give, at and around the edges of their arguments. */
    static String now(LineProgramDbg x) {
        StringBuilder seen = new StringBuilder();
        seen.append("state ").append(x.state());
        seen.append(" line ").append(x.currentLine());
        seen.append(" depth ").append(x.depth());
        seen.append(" events ").append(x.eventCount());
        seen.append(" frames");
        for (int k : around(10)) {
            seen.append(' ').append(x.frameLine(k));
        }
        seen.append(" variables");
        for (int v : around(9)) {
            seen.append(' ').append(x.variable(v));
        }
        seen.append(" code ");
        for (int line : around(35)) {
            seen.append(x.hasCode(line) ? '1' : '0');
        }
        return seen.toString();
    }

    /** Each question alone, with each argument that has an answer of its own. */
    static List<Function<LineProgramDbg, Object>> questions() {
        List<Function<LineProgramDbg, Object>> all = new ArrayList<>();
        all.add(x -> x.state());
        all.add(x -> x.currentLine());
        all.add(x -> x.depth());
        all.add(x -> x.eventCount());
        for (int i = 0; i <= 8; i++) {
            int k = i;
            all.add(x -> x.frameLine(k));
            all.add(x -> x.variable(k));
        }
        for (int i = 0; i <= 33; i++) {
            int line = i;
            all.add(x -> x.hasCode(line));
        }
        return all;
    }

    /** What the questions answer when there is no current event, no event was reached and all variables are 0. */
    static String fresh(int state, String code) {
        return "state " + state + " line 0 depth 0 events 0 frames" + " 0".repeat(14)
                + " variables" + " 0".repeat(13) + " code 000" + code + "0".repeat(36 - code.length());
    }

    /** The ends of int, -1, and 0..last. */
    static int[] around(int last) {
        int[] all = new int[last + 4];
        all[0] = Integer.MIN_VALUE;
        all[1] = -1;
        for (int i = 0; i <= last; i++) {
            all[i + 2] = i;
        }
        all[last + 3] = Integer.MAX_VALUE;
        return all;
    }

    /**
     * All that comes of an object later, which uses it up: the questions alone do not show lines,
     * breakpoints, depth limit and budget.
     */
    static String later(LineProgramDbg x, boolean editing) {
        return later(x, editing, true);
    }

    /** The same, told by the answers of the other calls alone, without any question. */
    static String unasked(LineProgramDbg x, boolean editing) {
        return later(x, editing, false);
    }

    private static String later(LineProgramDbg x, boolean editing, boolean asked) {
        StringBuilder seen = new StringBuilder();
        if (editing) {
            closeAndCompile(x, seen);
        }
        resumeOften(x, "stepInto()", asked, seen);
        seen.append(x.restart());
        resumeOften(x, "cont()", asked, seen);
        for (int line : around(34)) {
            seen.append(" clear ").append(x.clearBreakpoint(line));
        }
        seen.append(x.restart());
        resumeOften(x, "stepInto()", asked, seen);
        return seen.toString();
    }

    private static void closeAndCompile(LineProgramDbg x, StringBuilder seen) {
        int answer = x.compile();
        for (int i = 0; i < 40 && answer > 0; i++) {
            seen.append(" compile ").append(answer);
            seen.append(" add ").append(x.addLine(LineProgramDbg.K_END, 0, 0, 0));
            answer = x.compile();
        }
        seen.append(" compile ").append(answer);
    }

    private static void resumeOften(LineProgramDbg x, String way, boolean asked, StringBuilder seen) {
        for (int i = 0; i < 80; i++) {
            seen.append(' ').append(way).append(' ').append(Run.resume(x, way));
            if (asked) {
                seen.append(' ').append(now(x));
            }
        }
    }
}
