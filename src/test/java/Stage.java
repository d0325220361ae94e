import java.util.ArrayList;
import java.util.List;
import java.util.function.Function;
import java.util.function.Supplier;

/** Objects in every state, each made anew by the same calls, so that two alike can be compared. */
final class Stage {
    /** Lines 5, 14 and 18 are ENDs of IFs. It nests 6 calls deep, and finishes after 41 events. */
    static final String TEXT = "SET 0 5; CALL 0; IF 7; SET 6 1; END; OP 2 0 -9; WHILE 6; END;"
            + " PROC 0; OP 1 1 2; IF 0; OP 0 0 -1; CALL 0; END; END;"
            + " IF 2; OP 3 2 -1; END";
    /** Which lines of TEXT have code. */
    static final String CODE = "111101111111101110";

    private static final String FULL = Program.times(32, "OP 0 0 1");

    final String name;
    final int state;
    /** Which lines have code once the program is compiled; its length is the number of lines. */
    final String code;
    private final Supplier<LineProgramDbg> recipe;

    private Stage(String name, int state, String code, Supplier<LineProgramDbg> recipe) {
        this.name = name;
        this.state = state;
        this.code = code;
        this.recipe = recipe;
    }

    int count() {
        return code.length();
    }

    /** Whether the program is TEXT. */
    boolean isText() {
        return code.equals(CODE);
    }

    /** No question is asked here, so that a question that changes something is the first one asked. */
    LineProgramDbg make() {
        return recipe.get();
    }

    static List<Stage> editing() {
        return List.of(
                new Stage("editing, no lines", 0, "", () -> new LineProgramDbg(2, 64)),
                new Stage("editing, with lines", 0, CODE, () -> Program.edited(8, 64, TEXT)),
                new Stage("editing, full", 0, "1".repeat(32), () -> Program.edited(2, 64, FULL)),
                new Stage("editing, full of open blocks", 0, "1".repeat(32),
                        () -> Program.edited(2, 64, Program.times(32, "IF 0"))),
                new Stage("editing, after a failed compile", 0, "111", Stage::failed));
    }

    private static LineProgramDbg failed() {
        LineProgramDbg x = Program.edited(2, 64, "CALL 0; PROC 0; SET 1 1");
        Check.due("compile()", x.compile(), 4);
        return x;
    }

    static List<Stage> ready() {
        return List.of(
                new Stage("ready", 1, CODE, () -> Program.ready(8, 64, TEXT)),
                new Stage("ready, no lines", 1, "", () -> Program.ready(8, 64, "")),
                new Stage("ready, full", 1, "1".repeat(32), () -> Program.ready(8, 64, FULL)),
                new Stage("ready, with breakpoints", 1, CODE, () -> withBreakpoints(8)),
                new Stage("ready again", 1, CODE, () -> restarted(withBreakpoints(8), 4)));
    }

    static List<Stage> paused() {
        return List.of(
                new Stage("paused at the first event", 2, CODE, () -> continued(withBreakpoints(8), 1)),
                new Stage("paused deep", 2, CODE, () -> continued(withBreakpoints(8), 4)),
                new Stage("paused before the fault", 2, CODE, () -> continued(withBreakpoints(2), 3)),
                new Stage("paused by the budget", 2, CODE, () -> continued(Program.ready(8, 19, TEXT), 1)),
                new Stage("paused at the last event", 2, CODE, () -> continued(withBreakpoints(8), 7)));
    }

    static List<Stage> finished() {
        return List.of(
                new Stage("finished", 3, CODE, () -> continued(Program.ready(8, 64, TEXT), 1)),
                new Stage("finished, no lines", 3, "", () -> continued(Program.ready(8, 64, ""), 1)),
                new Stage("finished, full", 3, "1".repeat(32), () -> continued(Program.ready(8, 64, FULL), 1)),
                new Stage("finished, with breakpoints", 3, CODE, () -> continued(withBreakpoints(8), 8)));
    }

    static List<Stage> faulted() {
        return List.of(
                new Stage("faulted", 4, CODE, () -> continued(Program.ready(2, 64, TEXT), 1)),
                new Stage("faulted, with breakpoints", 4, CODE, () -> continued(withBreakpoints(2), 4)));
    }

    static List<Stage> resumable() {
        return join(ready(), paused());
    }

    static List<Stage> ended() {
        return join(finished(), faulted());
    }

    static List<Stage> compiled() {
        return join(resumable(), ended());
    }

    static List<Stage> all() {
        return join(editing(), compiled());
    }

    private static List<Stage> join(List<Stage> some, List<Stage> others) {
        List<Stage> all = new ArrayList<>(some);
        all.addAll(others);
        return all;
    }

    /** Breakpoints on the first line, on the inner CALL and on the last line with code. */
    private static LineProgramDbg withBreakpoints(int maxDepth) {
        LineProgramDbg x = Program.ready(maxDepth, 64, TEXT);
        for (int line : new int[] {1, 13, 17}) {
            Check.due("setBreakpoint(" + line + ")", x.setBreakpoint(line), line);
        }
        return x;
    }

    private static LineProgramDbg continued(LineProgramDbg x, int times) {
        for (int i = 0; i < times; i++) {
            x.cont();
        }
        return x;
    }

    private static LineProgramDbg restarted(LineProgramDbg x, int times) {
        continued(x, times);
        Check.due("restart()", x.restart(), true);
        return x;
    }

    /** The call gives this answer, and nothing changes: neither what the questions answer, nor what comes later. */
    void unchangedBy(String what, Function<LineProgramDbg, Object> call, Object answer) {
        LineProgramDbg x = make();
        String before = Look.now(x);
        Check.due(what + " when " + name, String.valueOf(call.apply(x)), String.valueOf(answer));
        Check.due("the questions after " + what + " when " + name, Look.now(x), before);
        Check.due("what comes after " + what + " when " + name, Look.later(x, isEditing()), Look.later(make(), isEditing()));
        // Once more without a question before it and behind it, since a question could hide or cause a change.
        LineProgramDbg unasked = make();
        call.apply(unasked);
        Check.due("the calls after " + what + " when " + name, Look.unasked(unasked, isEditing()),
                Look.unasked(make(), isEditing()));
    }

    /** The question changes nothing: no other one, nor itself, answers otherwise for its having been asked. */
    void unchangedByQuestion(String what, Function<LineProgramDbg, Object> question) {
        Object answer = question.apply(make());
        unchangedBy(what, question, answer);
        for (Function<LineProgramDbg, Object> other : Look.questions()) {
            LineProgramDbg x = make();
            for (int times = 0; times < 3; times++) {
                question.apply(x);
            }
            Check.due("another question after " + what + " when " + name, String.valueOf(other.apply(x)),
                    String.valueOf(other.apply(make())));
        }
    }

    private boolean isEditing() {
        return state == LineProgramDbg.S_EDITING;
    }
}
