/** What the tests share: comparing answers, writing programs down, and looking at a whole object. */
final class Check {
    private static int wrong = 0;

    private Check() {
    }

    static void due(String what, long got, long want) {
        due(what, Long.toString(got), Long.toString(want));
    }

    static void due(String what, boolean got, boolean want) {
        due(what, Boolean.toString(got), Boolean.toString(want));
    }

    static void due(String what, String got, String want) {
        if (!got.equals(want)) {
            wrong++;
            System.out.println(what + " answered " + got + ", due is " + want);
        }
    }

    static boolean anyWrong() {
        return wrong != 0;
    }

    /** The last call of every test. */
    static void end() {
        System.out.println(wrong == 0 ? "all answers are as due" : wrong + " answers are not as due");
        if (wrong != 0) {
            System.exit(1);
        }
    }

    static int[] set(int a, int b) {
        return new int[] {LineProgramDbg.K_SET, a, b, 0};
    }

    static int[] op(int a, int b, int c) {
        return new int[] {LineProgramDbg.K_OP, a, b, c};
    }

    static int[] when(int a) {
        return new int[] {LineProgramDbg.K_IF, a, 0, 0};
    }

    static int[] loop(int a) {
        return new int[] {LineProgramDbg.K_WHILE, a, 0, 0};
    }

    static int[] close() {
        return new int[] {LineProgramDbg.K_END, 0, 0, 0};
    }

    static int[] proc(int a) {
        return new int[] {LineProgramDbg.K_PROC, a, 0, 0};
    }

    static int[] call(int a) {
        return new int[] {LineProgramDbg.K_CALL, a, 0, 0};
    }

    static int[] ret() {
        return new int[] {LineProgramDbg.K_RET, 0, 0, 0};
    }

    static int add(LineProgramDbg x, int[] line) {
        return x.addLine(line[0], line[1], line[2], line[3]);
    }

    /** A program with its lines added, not yet compiled. */
    static LineProgramDbg edited(int maxDepth, int budget, int[]... lines) {
        LineProgramDbg x = new LineProgramDbg(maxDepth, budget);
        for (int i = 0; i < lines.length; i++) {
            due("addLine of line " + (i + 1), add(x, lines[i]), i + 1);
        }
        return x;
    }

    /** A program compiled and ready. */
    static LineProgramDbg ready(int maxDepth, int budget, int[]... lines) {
        LineProgramDbg x = edited(maxDepth, budget, lines);
        due("compile()", x.compile(), 0);
        return x;
    }

    /** Every answer that the questions give, at and around the edges of their arguments. */
    static String look(LineProgramDbg x) {
        StringBuilder seen = new StringBuilder();
        seen.append("state ").append(x.state());
        seen.append(" line ").append(x.currentLine());
        seen.append(" depth ").append(x.depth());
        seen.append(" events ").append(x.eventCount());
        seen.append(" frames");
        for (int k : around(10)) {
            seen.append(' ').append(x.frameLine(k));
        }
        seen.append(" variables");
        for (int v : around(9)) {
            seen.append(' ').append(x.variable(v));
        }
        seen.append(" code ");
        for (int line : around(35)) {
            seen.append(x.hasCode(line) ? '1' : '0');
        }
        return seen.toString();
    }

    /** The ends of int, -1, and 0..last. */
    static int[] around(int last) {
        int[] all = new int[last + 4];
        all[0] = Integer.MIN_VALUE;
        all[1] = -1;
        for (int i = 0; i <= last; i++) {
            all[i + 2] = i;
        }
        all[last + 3] = Integer.MAX_VALUE;
        return all;
    }

    /** Where a run stands: answer, state, line, depth and events, in one row. */
    static String at(LineProgramDbg x, int answer) {
        return answer + ": state " + x.state() + " line " + x.currentLine() + " depth " + x.depth()
                + " events " + x.eventCount();
    }

    static String row(int answer, int state, int line, int depth, int events) {
        return answer + ": state " + state + " line " + line + " depth " + depth + " events " + events;
    }
}
