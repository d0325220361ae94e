/** Promise 9: a step over that is not cut off by the budget ends where steps into would have led. */
public final class StepOverLawTest {
    private static final int PROGRAMS = 3000;
    private static final int[] MET = new int[6];

    public static void main(String[] args) {
        for (int n = 0; n < PROGRAMS && !Check.anyWrong(); n++) {
            oneProgram(n);
        }
        for (int answer = 1; answer <= 5; answer++) {
            Check.due("answer " + answer + " is met often", MET[answer] > 50, true);
        }
        Check.end();
    }

    private static void oneProgram(int n) {
        Dice dice = new Dice(1_000_000L + n);
        int[][] lines = new RandomPrograms(dice).wellFormed();
        if (lines.length > LineProgramDbg.MAX_LINES) {
            return;
        }
        int depth = 1 + dice.roll(8);
        int budget = dice.of(7, 60, 4096);
        boolean[] breaks = new boolean[lines.length + 1];
        for (int line = 1; line <= lines.length; line++) {
            breaks[line] = dice.roll(8) == 0;
        }
        for (int steps = 1; steps <= 25 && !Check.anyWrong(); steps++) {
            LineProgramDbg over = pausedAfter(steps, depth, budget, lines, breaks);
            LineProgramDbg into = pausedAfter(steps, depth, budget, lines, breaks);
            if (over.state() != LineProgramDbg.S_PAUSED) {
                return;
            }
            int answer = over.stepOver();
            MET[answer]++;
            if (answer != LineProgramDbg.R_LIMIT) {
                String name = "program " + n + " after " + steps + " steps";
                Check.due(name + ": stepOver()", answer, followBySteps(into, breaks));
                Check.due(name + ": what stands", Look.now(over), Look.now(into));
            }
        }
    }

    private static LineProgramDbg pausedAfter(int steps, int depth, int budget, int[][] lines, boolean[] breaks) {
        LineProgramDbg x = Program.ready(depth, budget, lines);
        for (int line = 1; line < breaks.length; line++) {
            breaks[line] = breaks[line] && x.hasCode(line);
            if (breaks[line]) {
                x.setBreakpoint(line);
            }
        }
        for (int i = 0; i < steps; i++) {
            x.stepInto();
        }
        return x;
    }

    private static int followBySteps(LineProgramDbg x, boolean[] breaks) {
        int startLine = x.currentLine();
        int startDepth = x.depth();
        for (int steps = 0; steps < 4096; steps++) {
            int answer = x.stepInto();
            if (answer != LineProgramDbg.R_STEP) {
                return answer;
            }
            if (x.depth() < startDepth || (x.depth() == startDepth && x.currentLine() != startLine)) {
                return LineProgramDbg.R_STEP;
            }
            if (breaks[x.currentLine()]) {
                return LineProgramDbg.R_BREAK;
            }
        }
        // More steps than any budget allows, so the step over had to answer this.
        return LineProgramDbg.R_LIMIT;
    }
}
