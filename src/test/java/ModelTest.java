/** All promises: long runs of calls by the dice, each answer compared with the model's. */
public final class ModelTest {
    private static final int OBJECTS = 6000;
    private static final int CALLS = 80;

    // How often each state was met, so that a run that never gets anywhere is noticed.
    private static final int[] MET = new int[5];

    public static void main(String[] args) {
        for (int n = 0; n < OBJECTS && !Check.anyWrong(); n++) {
            oneObject(n);
        }
        for (int state = 0; state < MET.length; state++) {
            Check.due("state " + state + " is met often", MET[state] > 1000, true);
        }
        Check.end();
    }

    private static void oneObject(int n) {
        Dice dice = new Dice(n);
        int depth = dice.of(1, 2, 3, 8, 0, -5, 9, dice.roll(12));
        int budget = dice.of(1, 2, 5, 17, 300, 4096, 0, -7, 5000, dice.roll(40));
        LineProgramDbg x = new LineProgramDbg(depth, budget);
        Model m = new Model(depth, budget);
        RandomPrograms programs = new RandomPrograms(dice);
        int[][] lines = n % 4 == 3 ? programs.wild() : programs.wellFormed();
        String name = "object " + n;
        for (int[] line : lines) {
            if (dice.roll(6) == 0) {
                wrongLine(name, dice, x, m);
            }
            Check.due(name + ": addLine", x.addLine(line[0], line[1], line[2], line[3]),
                    m.addLine(line[0], line[1], line[2], line[3]));
        }
        if (dice.roll(8) != 0) {
            Check.due(name + ": compile()", x.compile(), m.compile());
        }
        compare(name + ": before the calls", x, m);
        for (int i = 0; i < CALLS && !Check.anyWrong(); i++) {
            oneCall(name + ", call " + i, dice, x, m);
            MET[m.state()]++;
        }
    }

    private static int wildNumber(Dice dice) {
        return dice.of(Integer.MIN_VALUE, -1, 0, 1, 3, 4, 7, 8, 9, 32, 33, Integer.MAX_VALUE);
    }

    private static void wrongLine(String name, Dice dice, LineProgramDbg x, Model m) {
        int kind = dice.of(-1, 0, 9, 9, 1, 2, 3, 4, 6, 7);
        int a = kind < 1 || kind > 8 ? dice.roll(4) : dice.of(-1, 8, Integer.MIN_VALUE, Integer.MAX_VALUE);
        int b = wildNumber(dice);
        int c = wildNumber(dice);
        Check.due(name + ": a wrong addLine", x.addLine(kind, a, b, c), m.addLine(kind, a, b, c));
    }

    private static void oneCall(String name, Dice dice, LineProgramDbg x, Model m) {
        int line = dice.roll(8) == 0 ? wildNumber(dice) : 1 + dice.roll(32);
        switch (dice.roll(24)) {
            case 0:
            case 1:
                Check.due(name + ": setBreakpoint(" + line + ")", x.setBreakpoint(line), m.setBreakpoint(line));
                break;
            case 2:
            case 3:
            case 4:
                Check.due(name + ": clearBreakpoint(" + line + ")", x.clearBreakpoint(line), m.clearBreakpoint(line));
                break;
            case 5:
                if (m.state() > 2 || dice.roll(4) == 0) {
                    Check.due(name + ": restart()", x.restart(), m.restart());
                }
                break;
            case 6:
                Check.due(name + ": compile()", x.compile(), m.compile());
                break;
            case 7:
                int kind = dice.of(1, 2, 5, 7, 8);
                Check.due(name + ": addLine", x.addLine(kind, 0, 1, 2), m.addLine(kind, 0, 1, 2));
                break;
            case 8:
            case 9:
                Check.due(name + ": cont()", x.cont(), m.cont());
                break;
            case 10:
            case 11:
            case 12:
                Check.due(name + ": stepOut()", x.stepOut(), m.stepOut());
                break;
            case 13:
            case 14:
            case 15:
            case 16:
                Check.due(name + ": stepOver()", x.stepOver(), m.stepOver());
                break;
            default:
                Check.due(name + ": stepInto()", x.stepInto(), m.stepInto());
        }
        compare(name, x, m);
    }

    private static void compare(String name, LineProgramDbg x, Model m) {
        Check.due(name + ": state()", x.state(), m.state());
        Check.due(name + ": currentLine()", x.currentLine(), m.currentLine());
        Check.due(name + ": depth()", x.depth(), m.depth());
        Check.due(name + ": eventCount()", x.eventCount(), m.eventCount());
        for (int k : Look.around(10)) {
            Check.due(name + ": frameLine(" + k + ")", x.frameLine(k), m.frameLine(k));
        }
        for (int v : Look.around(9)) {
            Check.due(name + ": variable(" + v + ")", x.variable(v), m.variable(v));
        }
        for (int line : Look.around(34)) {
            Check.due(name + ": hasCode(" + line + ")", x.hasCode(line), m.hasCode(line));
        }
        if (m.state() == 2 || m.state() == 4) {
            Check.due(name + ": hasCode(currentLine())", x.hasCode(x.currentLine()), true);
        }
    }
}
