/** Promises 4, 5 and 17 (breakpoints, lines with code): a test for each sentence that names a boundary. */
public final class BreakpointTest {
    /** Lines 6, 7 and 14 are ENDs of IFs: 6 and 7 lie together, 14 is the last. */
    private static final String NESTED = "SET 0 1; WHILE 0; IF 0; IF 0; OP 0 0 -1; END; END; END; CALL 0; PROC 0; RET; END;"
            + " IF 2; END";
    private static final String NESTED_CODE = "11111001111110";

    public static void main(String[] args) {
        setting();
        clearing();
        havingCode();
        Check.end();
    }

    private static void setting() {
        Check.sentence("`setBreakpoint(line)` is refused (answers 0, nothing changes) if any of these holds: state is"
                + " `S_EDITING`;", BreakpointTest::setsNoneWhileEditing);
        Check.sentence("line < 1 or line > count;", BreakpointTest::setsNoneOutside);
        Check.sentence("no line y with line <= y <= count has code.", BreakpointTest::setsNoneWhereNoCodeFollows);
        Check.sentence("Otherwise let y be the least such line.", BreakpointTest::slidesToTheLeastLine);
        Check.sentence("A breakpoint is put on y (no change if one is already there), and the answer is y.",
                BreakpointTest::setsTwiceAsOnce);
        Check.sentence("So every non-zero answer y is the least line y >= line with `hasCode(y)` true.",
                BreakpointTest::answersTheLeastLineWithCode);
        Check.sentence("This is allowed in `S_READY`, `S_PAUSED`, `S_FINISHED` and `S_FAULTED`, and changes neither state,"
                + " current event, frames, variables nor eventCount.", BreakpointTest::setsInEveryOtherState);
    }

    private static void clearing() {
        Check.sentence("`clearBreakpoint(line)` answers false and changes nothing if any of these holds: state is"
                + " `S_EDITING`;", BreakpointTest::clearsNoneWhileEditing);
        Check.sentence("line is outside 1..count;", BreakpointTest::clearsNoneOutside);
        Check.sentence("line carries no breakpoint.", BreakpointTest::clearsNoneWhereNoneIs);
        Check.sentence("Otherwise it removes that breakpoint and answers true.", BreakpointTest::clears);
        Check.sentence("Otherwise it removes that breakpoint and answers true. Nothing else changes.",
                BreakpointTest::clearingChangesNothingElse);
    }

    private static void havingCode() {
        Check.sentence("`hasCode(line)` answers false in `S_EDITING`", BreakpointTest::noCodeWhileEditing);
        Check.sentence("or when line is outside 1..count.", BreakpointTest::noCodeOutside);
        Check.sentence("Otherwise it answers whether the line has code, that is, true unless the line is an END closing an"
                + " IF.", BreakpointTest::codeUnlessIfEnd);
        Check.sentence("that is, true unless the line is an END closing an IF. Nothing changes.",
                BreakpointTest::askingForCodeChangesNothing);
    }

    private static void setsNoneWhileEditing() {
        for (Stage stage : Stage.editing()) {
            for (int line : Look.around(34)) {
                stage.unchangedBy("setBreakpoint(" + line + ")", x -> x.setBreakpoint(line), 0);
            }
        }
    }

    private static void setsNoneOutside() {
        for (Stage stage : Stage.compiled()) {
            int count = stage.count();
            for (int line : new int[] {Integer.MIN_VALUE, -1, 0, count + 1, count + 2, 33, 34, Integer.MAX_VALUE}) {
                stage.unchangedBy("setBreakpoint(" + line + ")", x -> x.setBreakpoint(line), 0);
            }
        }
        LineProgramDbg full = Program.ready(1, 64, Program.times(32, "RET"));
        Check.due("setBreakpoint(33) of a full program", full.setBreakpoint(33), 0);
        Check.due("setBreakpoint(0) of a full program", full.setBreakpoint(0), 0);
        Check.due("setBreakpoint(32) of a full program", full.setBreakpoint(32), 32);
        Check.due("setBreakpoint(1) of a full program", full.setBreakpoint(1), 1);
    }

    private static void setsNoneWhereNoCodeFollows() {
        for (Stage stage : Stage.compiled()) {
            if (stage.isText()) {
                stage.unchangedBy("setBreakpoint(18)", x -> x.setBreakpoint(18), 0);
            }
        }
        LineProgramDbg x = Program.ready(1, 64, Program.times(16, "IF 0") + "; " + Program.times(16, "END"));
        for (int line = 17; line <= 32; line++) {
            Check.due("setBreakpoint(" + line + ") where only ENDs of IFs follow", x.setBreakpoint(line), 0);
        }
        Check.due("setBreakpoint(16)", x.setBreakpoint(16), 16);
        for (int line = 17; line <= 32; line++) {
            Check.due("clearBreakpoint(" + line + ")", x.clearBreakpoint(line), false);
        }
    }

    private static void slidesToTheLeastLine() {
        LineProgramDbg x = Program.ready(1, 64, NESTED);
        Check.due("setBreakpoint(5)", x.setBreakpoint(5), 5);
        Check.due("setBreakpoint(6)", x.setBreakpoint(6), 8);
        Check.due("clearBreakpoint(8)", x.clearBreakpoint(8), true);
        Check.due("setBreakpoint(7)", x.setBreakpoint(7), 8);
        Check.due("setBreakpoint(8)", x.setBreakpoint(8), 8);
        Run.pauses(x, "cont()", Run.BREAK, 5, 0, 5);
        Run.pauses(x, "cont()", Run.BREAK, 8, 0, 6);
        Run.finishes(x, "cont()", 11);
        // From the first END to a last line far behind it.
        LineProgramDbg far = Program.ready(1, 64, Program.times(15, "IF 0") + "; " + Program.times(15, "END") + "; RET; RET");
        Check.due("setBreakpoint(16)", far.setBreakpoint(16), 31);
        Run.pauses(far, "cont()", Run.BREAK, 31, 0, 2);
    }

    private static void setsTwiceAsOnce() {
        LineProgramDbg x = Program.ready(1, 64, "SET 0 1; SET 0 2; SET 0 3");
        Check.due("setBreakpoint(2)", x.setBreakpoint(2), 2);
        Check.due("setBreakpoint(2) again", x.setBreakpoint(2), 2);
        Run.pauses(x, "cont()", Run.BREAK, 2, 0, 2);
        Check.due("setBreakpoint(2) on the current line", x.setBreakpoint(2), 2);
        Run.finishes(x, "cont()", 3);
        Check.due("clearBreakpoint(2)", x.clearBreakpoint(2), true);
        Check.due("clearBreakpoint(2) again", x.clearBreakpoint(2), false);
        Check.due("restart()", x.restart(), true);
        Run.finishes(x, "cont()", 3);
        for (Stage stage : Stage.compiled()) {
            if (stage.name.contains("with breakpoints")) {
                stage.unchangedBy("setBreakpoint(13) where one is", y -> y.setBreakpoint(13), 13);
            }
        }
    }

    private static void answersTheLeastLineWithCode() {
        String[] texts = {NESTED, Stage.TEXT, Program.times(16, "IF 0; END"), Program.times(10, "IF 0; END; RET")};
        for (String text : texts) {
            LineProgramDbg x = Program.ready(1, 64, text);
            for (int line = 1; line <= Program.lines(text).length; line++) {
                int y = line;
                while (y <= 32 && !x.hasCode(y)) {
                    y++;
                }
                Check.due("setBreakpoint(" + line + ")", x.setBreakpoint(line), y > 32 ? 0 : y);
            }
        }
    }

    private static void setsInEveryOtherState() {
        for (Stage stage : Stage.compiled()) {
            if (stage.isText()) {
                LineProgramDbg x = stage.make();
                String before = Look.now(x);
                for (int line = 1; line <= 17; line++) {
                    int due = line == 5 || line == 14 ? line + 1 : line;
                    Check.due("setBreakpoint(" + line + ") when " + stage.name, x.setBreakpoint(line), due);
                    Check.due("the questions after it", Look.now(x), before);
                }
                Check.due("clearBreakpoint(6)", x.clearBreakpoint(6), true);
            }
        }
        setsAheadOfAPausedRun();
    }

    private static void setsAheadOfAPausedRun() {
        LineProgramDbg x = Program.ready(1, 64, "SET 0 1; SET 0 2; SET 0 3");
        Run.steps(x, "1");
        Check.due("setBreakpoint(3)", x.setBreakpoint(3), 3);
        Run.pauses(x, "cont()", Run.BREAK, 3, 0, 3);
        Run.finishes(x, "cont()", 3);
        Check.due("setBreakpoint(1) when finished", x.setBreakpoint(1), 1);
        Check.due("restart()", x.restart(), true);
        Run.pauses(x, "cont()", Run.BREAK, 1, 0, 1);
    }

    private static void clearsNoneWhileEditing() {
        for (Stage stage : Stage.editing()) {
            for (int line : Look.around(34)) {
                stage.unchangedBy("clearBreakpoint(" + line + ")", x -> x.clearBreakpoint(line), false);
            }
        }
    }

    private static void clearsNoneOutside() {
        for (Stage stage : Stage.compiled()) {
            int count = stage.count();
            for (int line : new int[] {Integer.MIN_VALUE, -1, 0, count + 1, count + 2, 33, 34, Integer.MAX_VALUE}) {
                stage.unchangedBy("clearBreakpoint(" + line + ")", x -> x.clearBreakpoint(line), false);
            }
        }
        LineProgramDbg full = Program.ready(1, 64, Program.times(32, "RET"));
        full.setBreakpoint(1);
        full.setBreakpoint(32);
        Check.due("clearBreakpoint(0) of a full program", full.clearBreakpoint(0), false);
        Check.due("clearBreakpoint(33) of a full program", full.clearBreakpoint(33), false);
        Check.due("clearBreakpoint(1) of a full program", full.clearBreakpoint(1), true);
        Check.due("clearBreakpoint(32) of a full program", full.clearBreakpoint(32), true);
    }

    private static void clearsNoneWhereNoneIs() {
        for (Stage stage : Stage.compiled()) {
            // Lines 12 and 14 lie beside the breakpoint on line 13, line 18 is an END of an IF.
            for (int line : new int[] {2, 5, 12, 14, 16, 18}) {
                stage.unchangedBy("clearBreakpoint(" + line + ")", x -> x.clearBreakpoint(line), false);
            }
        }
        // It does not slide, as setting does.
        LineProgramDbg x = Program.ready(1, 64, NESTED);
        Check.due("setBreakpoint(6)", x.setBreakpoint(6), 8);
        Check.due("clearBreakpoint(6)", x.clearBreakpoint(6), false);
        Check.due("clearBreakpoint(7)", x.clearBreakpoint(7), false);
        Check.due("clearBreakpoint(8)", x.clearBreakpoint(8), true);
        Check.due("clearBreakpoint(8) again", x.clearBreakpoint(8), false);
    }

    private static void clears() {
        for (Stage stage : Stage.compiled()) {
            if (stage.isText()) {
                LineProgramDbg x = stage.make();
                Check.due("setBreakpoint(9) when " + stage.name, x.setBreakpoint(9), 9);
                Check.due("clearBreakpoint(9) when " + stage.name, x.clearBreakpoint(9), true);
                Check.due("clearBreakpoint(9) again", x.clearBreakpoint(9), false);
            }
        }
        LineProgramDbg x = Program.ready(1, 64, "SET 0 1; SET 0 2");
        x.setBreakpoint(2);
        Check.due("clearBreakpoint(2)", x.clearBreakpoint(2), true);
        Run.finishes(x, "cont()", 2);
    }

    private static void clearingChangesNothingElse() {
        for (Stage stage : Stage.compiled()) {
            if (stage.isText()) {
                // One set and cleared again leaves all as it was, the other breakpoints too.
                stage.unchangedBy("setBreakpoint(15) and clearBreakpoint(15)",
                        x -> x.setBreakpoint(15) == 15 && x.clearBreakpoint(15), true);
                LineProgramDbg x = stage.make();
                x.setBreakpoint(13);
                String before = Look.now(x);
                Check.due("clearBreakpoint(13)", x.clearBreakpoint(13), true);
                Check.due("the questions after it", Look.now(x), before);
            }
        }
        LineProgramDbg x = Program.ready(1, 64, "SET 0 1; SET 0 2; SET 0 3");
        for (int line = 1; line <= 3; line++) {
            x.setBreakpoint(line);
        }
        Check.due("clearBreakpoint(2)", x.clearBreakpoint(2), true);
        Run.pauses(x, "cont()", Run.BREAK, 1, 0, 1);
        Run.pauses(x, "cont()", Run.BREAK, 3, 0, 3);
    }

    private static void noCodeWhileEditing() {
        for (Stage stage : Stage.editing()) {
            for (int line : Look.around(40)) {
                Check.due("hasCode(" + line + ") when " + stage.name, stage.make().hasCode(line), false);
            }
        }
    }

    private static void noCodeOutside() {
        for (Stage stage : Stage.compiled()) {
            LineProgramDbg x = stage.make();
            int count = stage.count();
            for (int line : new int[] {Integer.MIN_VALUE, -1, 0, count + 1, count + 2, 33, 34, 64, Integer.MAX_VALUE}) {
                Check.due("hasCode(" + line + ") when " + stage.name, x.hasCode(line), false);
            }
        }
        LineProgramDbg full = Program.ready(1, 64, Program.times(32, "RET"));
        for (int line : Look.around(40)) {
            Check.due("hasCode(" + line + ") of a full program", full.hasCode(line), line >= 1 && line <= 32);
        }
    }

    private static void codeUnlessIfEnd() {
        for (Stage stage : Stage.compiled()) {
            LineProgramDbg x = stage.make();
            for (int line = 1; line <= stage.count(); line++) {
                boolean due = stage.code.charAt(line - 1) == '1';
                Check.due("hasCode(" + line + ") when " + stage.name, x.hasCode(line), due);
            }
        }
        LineProgramDbg x = Program.ready(1, 64, NESTED);
        for (int line = 1; line <= 14; line++) {
            Check.due("hasCode(" + line + ")", x.hasCode(line), NESTED_CODE.charAt(line - 1) == '1');
        }
    }

    private static void askingForCodeChangesNothing() {
        for (Stage stage : Stage.all()) {
            for (int line : new int[] {Integer.MIN_VALUE, -1, 0, 1, 5, 18, 19, 32, 33, Integer.MAX_VALUE}) {
                stage.unchangedByQuestion("hasCode(" + line + ")", x -> x.hasCode(line));
            }
            stage.unchangedByQuestion("every hasCode(line)", BreakpointTest::codeOfEveryLine);
        }
    }

    private static String codeOfEveryLine(LineProgramDbg x) {
        StringBuilder seen = new StringBuilder();
        for (int line : Look.around(34)) {
            seen.append(x.hasCode(line) ? '1' : '0');
        }
        return seen.toString();
    }
}
