import java.util.ArrayDeque;
import java.util.ArrayList;
import java.util.Arrays;
import java.util.HashSet;
import java.util.List;
import java.util.Set;

/**
 * The document told again in Java, sentence by sentence and with the library at hand: blocks are
 * sought anew each time, SUCC is the loop as it is written. What the program answers is compared with it.
 */
final class Model {
    private record Line(int kind, int a, int b, int c) {
    }

    private interface Condition {
        boolean holds(int line, int depth, int startLine, int startDepth);
    }

    private static final int FINISH = -1;
    private static final int FAULT = -2;

    private final int maxDepth;
    private final int budget;
    private final List<Line> lines = new ArrayList<>();
    private final Set<Integer> breakpoints = new HashSet<>();
    private final List<Integer> frames = new ArrayList<>();
    private final int[] variables = new int[8];
    private int state = 0;
    private int current = 0;
    private int events = 0;

    Model(int maxDepth, int budget) {
        this.maxDepth = Math.min(8, Math.max(1, maxDepth));
        this.budget = Math.min(4096, Math.max(1, budget));
    }

    private Line line(int number) {
        return lines.get(number - 1);
    }

    private static boolean in(int value, int last) {
        return value >= 0 && value <= last;
    }

    int addLine(int kind, int a, int b, int c) {
        if (state != 0 || lines.size() == 32 || kind < 1 || kind > 8) {
            return 0;
        }
        boolean fits = switch (kind) {
            case 1, 3, 4 -> in(a, 7);
            case 2 -> in(a, 7) && in(b, 7);
            case 6, 7 -> in(a, 3);
            default -> true;
        };
        if (!fits) {
            return 0;
        }
        lines.add(new Line(kind, a, b, c));
        return lines.size();
    }

    private static boolean opens(Line line) {
        return line.kind == 3 || line.kind == 4 || line.kind == 6;
    }

    /** The line that opened the block which the END at this line closes. */
    private int opening(int end) {
        int nested = 0;
        for (int x = end - 1; x >= 1; x--) {
            if (line(x).kind == 5) {
                nested++;
            } else if (opens(line(x))) {
                if (nested == 0) {
                    return x;
                }
                nested--;
            }
        }
        throw new IllegalStateException("no opening of " + end);
    }

    private int endOf(int opening) {
        for (int x = opening + 1; x <= lines.size(); x++) {
            if (line(x).kind == 5 && opening(x) == opening) {
                return x;
            }
        }
        throw new IllegalStateException("no END of " + opening);
    }

    private int procLine(int p) {
        for (int x = 1; x <= lines.size(); x++) {
            if (line(x).kind == 6 && line(x).a == p) {
                return x;
            }
        }
        return 0;
    }

    int compile() {
        if (state != 0) {
            return -1;
        }
        ArrayDeque<Integer> open = new ArrayDeque<>();
        for (int x = 1; x <= lines.size(); x++) {
            Line line = line(x);
            if (line.kind == 5 && open.isEmpty()) {
                return x;
            }
            if (line.kind == 6 && (!open.isEmpty() || procLine(line.a) < x)) {
                return x;
            }
            if (line.kind == 5) {
                open.pop();
            }
            if (opens(line)) {
                open.push(x);
            }
        }
        if (!open.isEmpty()) {
            return lines.size() + 1;
        }
        for (int x = 1; x <= lines.size(); x++) {
            if (line(x).kind == 7 && procLine(line(x).a) == 0) {
                return x;
            }
        }
        breakpoints.clear();
        ready();
        return 0;
    }

    private void ready() {
        state = 1;
        Arrays.fill(variables, 0);
        events = 0;
        frames.clear();
        current = 0;
    }

    int setBreakpoint(int line) {
        if (state == 0 || line < 1 || line > lines.size()) {
            return 0;
        }
        for (int y = line; y <= lines.size(); y++) {
            if (hasCode(y)) {
                breakpoints.add(y);
                return y;
            }
        }
        return 0;
    }

    boolean clearBreakpoint(int line) {
        return state != 0 && breakpoints.remove(line);
    }

    boolean restart() {
        if (state == 0) {
            return false;
        }
        ready();
        return true;
    }

    private int succ(int line) {
        int x = line + 1;
        while (true) {
            if (x > lines.size()) {
                return FINISH;
            }
            if (line(x).kind == 6) {
                x = endOf(x) + 1;
            } else if (line(x).kind == 5 && line(opening(x)).kind == 3) {
                x = x + 1;
            } else {
                return x;
            }
        }
    }

    private int back() {
        if (frames.isEmpty()) {
            return FINISH;
        }
        return succ(frames.remove(frames.size() - 1));
    }

    private int perform() {
        Line line = line(current);
        switch (line.kind) {
            case 1:
                variables[line.a] = line.b;
                return succ(current);
            case 2:
                variables[line.a] = (int) ((long) variables[line.b] + (long) line.c);
                return succ(current);
            case 3:
            case 4:
                return variables[line.a] != 0 ? succ(current) : succ(endOf(current));
            case 5:
                return line(opening(current)).kind == 4 ? opening(current) : back();
            case 6:
                return succ(current);
            case 7:
                if (frames.size() == maxDepth) {
                    return FAULT;
                }
                frames.add(current);
                return procLine(line.a);
            default:
                return back();
        }
    }

    private int resume(Condition condition) {
        if (state != 1 && state != 2) {
            return 0;
        }
        int startLine = state == 2 ? current : 0;
        int startDepth = state == 2 ? frames.size() : 0;
        int next = state == 2 ? perform() : succ(0);
        for (int j = 1;; j++) {
            if (next == FINISH) {
                state = 3;
                return 4;
            }
            if (next == FAULT) {
                state = 4;
                return 5;
            }
            state = 2;
            current = next;
            events++;
            if (condition.holds(current, frames.size(), startLine, startDepth)) {
                return 1;
            }
            if (breakpoints.contains(current)) {
                return 2;
            }
            if (j == budget) {
                return 3;
            }
            next = perform();
        }
    }

    int cont() {
        return resume((l, d, l0, d0) -> false);
    }

    int stepInto() {
        return resume((l, d, l0, d0) -> true);
    }

    int stepOver() {
        return resume((l, d, l0, d0) -> d < d0 || (d == d0 && l != l0));
    }

    int stepOut() {
        return resume((l, d, l0, d0) -> d < d0);
    }

    private boolean hasEvent() {
        return state == 2 || state == 4;
    }

    int state() {
        return state;
    }

    int currentLine() {
        return hasEvent() ? current : 0;
    }

    int depth() {
        return hasEvent() ? frames.size() : 0;
    }

    int frameLine(int k) {
        return k >= 1 && k <= depth() ? frames.get(k - 1) : 0;
    }

    int variable(int v) {
        return in(v, 7) ? variables[v] : 0;
    }

    int eventCount() {
        return events;
    }

    boolean hasCode(int line) {
        if (state == 0 || line < 1 || line > lines.size()) {
            return false;
        }
        return line(line).kind != 5 || line(opening(line)).kind != 3;
    }
}
