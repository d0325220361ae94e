/**
 * A source-line debugger for a tiny structured language.
 *
 * Line 0 stands for the place before the program: a run that is ready has line 0 and depth 0, and
 * performing line 0 leads to the first event. While there is no current event, line and depth are
 * kept 0, so that the questions about the current event need not look at the state.
 */
public final class LineProgramDbg {
    public static final int K_SET = 1;
    public static final int K_OP = 2;
    public static final int K_IF = 3;
    public static final int K_WHILE = 4;
    public static final int K_END = 5;
    public static final int K_PROC = 6;
    public static final int K_CALL = 7;
    public static final int K_RET = 8;

    public static final int S_EDITING = 0;
    public static final int S_READY = 1;
    public static final int S_PAUSED = 2;
    public static final int S_FINISHED = 3;
    public static final int S_FAULTED = 4;

    public static final int R_REFUSED = 0;
    public static final int R_STEP = 1;
    public static final int R_BREAK = 2;
    public static final int R_LIMIT = 3;
    public static final int R_FINISHED = 4;
    public static final int R_FAULT = 5;

    public static final int MAX_LINES = 32;
    public static final int NUM_VARS = 8;
    public static final int NUM_PROCS = 4;

    private static final int GREATEST_DEPTH = 8;
    private static final int GREATEST_BUDGET = 4096;

    // Room for line 0 and for the line number just past a full program.
    private static final int LINE_SLOTS = 34;
    // Frames are numbered from 1.
    private static final int FRAME_SLOTS = 9;

    // The places a performed line can lead to that are not lines.
    private static final int NEXT_IS_FINISH = 0;
    private static final int NEXT_IS_FAULT = -1;

    private static final int UNTIL_NEVER = 0;
    private static final int UNTIL_ALWAYS = 1;
    private static final int UNTIL_OVER = 2;
    private static final int UNTIL_OUT = 3;

    private final int depthLimit;
    private final int eventBudget;

    private int lineCount;
    private final int[] kindOf = new int[LINE_SLOTS];
    private final int[] operandA = new int[LINE_SLOTS];
    private final int[] operandB = new int[LINE_SLOTS];
    private final int[] operandC = new int[LINE_SLOTS];

    // Made by compile: the other end of a block, for its opening line and for its END.
    private final int[] partnerOf = new int[LINE_SLOTS];
    // Made by compile: the line of the event that is met when a run arrives at a line from above.
    private final int[] landingOf = new int[LINE_SLOTS];
    private final int[] procLine = new int[NUM_PROCS];
    private final int[] openBlocks = new int[LINE_SLOTS];

    private final boolean[] breakpointAt = new boolean[LINE_SLOTS];

    private int runState;
    private int eventLine;
    private int eventDepth;
    private int eventsReached;
    private final int[] values = new int[NUM_VARS];
    private final int[] callLine = new int[FRAME_SLOTS];

    public LineProgramDbg(int maxDepth, int budget) {
        depthLimit = clampFromOne(maxDepth, GREATEST_DEPTH);
        eventBudget = clampFromOne(budget, GREATEST_BUDGET);
        runState = S_EDITING;
    }

    public int addLine(int kind, int a, int b, int c) {
        if (runState != S_EDITING || lineCount >= MAX_LINES) {
            return 0;
        }
        if (kind < K_SET || kind > K_RET || !operandsFit(kind, a, b)) {
            return 0;
        }
        lineCount++;
        kindOf[lineCount] = kind;
        operandA[lineCount] = a;
        operandB[lineCount] = b;
        operandC[lineCount] = c;
        return lineCount;
    }

    public int compile() {
        if (runState != S_EDITING) {
            return -1;
        }
        int wrongLine = matchBlocks();
        if (wrongLine == 0) {
            wrongLine = firstCallOfNoProcedure();
        }
        if (wrongLine != 0) {
            return wrongLine;
        }
        findLandings();
        // No breakpoint has to go: none can be set before this, and no program compiles twice.
        makeReady();
        return 0;
    }

    public int setBreakpoint(int line) {
        if (runState == S_EDITING || !isLine(line)) {
            return 0;
        }
        for (int y = line; y <= lineCount; y++) {
            if (!closesIf(y)) {
                breakpointAt[y] = true;
                return y;
            }
        }
        return 0;
    }

    public boolean clearBreakpoint(int line) {
        if (runState == S_EDITING || !isLine(line) || !breakpointAt[line]) {
            return false;
        }
        breakpointAt[line] = false;
        return true;
    }

    public boolean restart() {
        if (runState == S_EDITING) {
            return false;
        }
        makeReady();
        return true;
    }

    public int cont() {
        return resume(UNTIL_NEVER);
    }

    public int stepInto() {
        return resume(UNTIL_ALWAYS);
    }

    public int stepOver() {
        return resume(UNTIL_OVER);
    }

    public int stepOut() {
        return resume(UNTIL_OUT);
    }

    public int state() {
        return runState;
    }

    public int currentLine() {
        return eventLine;
    }

    public int depth() {
        return eventDepth;
    }

    public int frameLine(int k) {
        if (k < 1 || k > eventDepth) {
            return 0;
        }
        return callLine[k];
    }

    public int variable(int v) {
        if (!isVariable(v)) {
            return 0;
        }
        return values[v];
    }

    public int eventCount() {
        return eventsReached;
    }

    public boolean hasCode(int line) {
        return runState != S_EDITING && isLine(line) && !closesIf(line);
    }

    private static int clampFromOne(int value, int greatest) {
        if (value < 1) {
            return 1;
        }
        return value > greatest ? greatest : value;
    }

    private static boolean isVariable(int v) {
        return v >= 0 && v < NUM_VARS;
    }

    private static boolean isProcedure(int p) {
        return p >= 0 && p < NUM_PROCS;
    }

    private static boolean operandsFit(int kind, int a, int b) {
        switch (kind) {
            case K_SET:
            case K_IF:
            case K_WHILE:
                return isVariable(a);
            case K_OP:
                return isVariable(a) && isVariable(b);
            case K_PROC:
            case K_CALL:
                return isProcedure(a);
            default:
                return true;
        }
    }

    private boolean isLine(int line) {
        return line >= 1 && line <= lineCount;
    }

    private boolean opensBlock(int line) {
        int kind = kindOf[line];
        return kind == K_IF || kind == K_WHILE || kind == K_PROC;
    }

    // Holds only once the blocks are matched.
    private boolean closesIf(int line) {
        return kindOf[line] == K_END && kindOf[partnerOf[line]] == K_IF;
    }

    /** Answers the first line that breaks the block structure, or 0. */
    private int matchBlocks() {
        forgetProcedures();
        int open = 0;
        for (int x = 1; x <= lineCount; x++) {
            if (kindOf[x] == K_PROC) {
                if (open > 0 || procLine[operandA[x]] != 0) {
                    return x;
                }
                procLine[operandA[x]] = x;
            }
            if (opensBlock(x)) {
                openBlocks[open] = x;
                open++;
            } else if (kindOf[x] == K_END) {
                if (open == 0) {
                    return x;
                }
                open--;
                joinBlock(openBlocks[open], x);
            }
        }
        return open > 0 ? lineCount + 1 : 0;
    }

    // A compile that failed may have left some behind.
    private void forgetProcedures() {
        for (int p = 0; p < NUM_PROCS; p++) {
            procLine[p] = 0;
        }
    }

    private void joinBlock(int opening, int end) {
        partnerOf[opening] = end;
        partnerOf[end] = opening;
    }

    private int firstCallOfNoProcedure() {
        for (int x = 1; x <= lineCount; x++) {
            if (kindOf[x] == K_CALL && procLine[operandA[x]] == 0) {
                return x;
            }
        }
        return 0;
    }

    // From the last line up, since a line that is passed over lands where a later line does.
    private void findLandings() {
        landingOf[lineCount + 1] = NEXT_IS_FINISH;
        for (int x = lineCount; x >= 1; x--) {
            if (kindOf[x] == K_PROC) {
                landingOf[x] = landingOf[partnerOf[x] + 1];
            } else if (closesIf(x)) {
                landingOf[x] = landingOf[x + 1];
            } else {
                landingOf[x] = x;
            }
        }
    }

    private void makeReady() {
        runState = S_READY;
        eventsReached = 0;
        dropEvent();
        for (int v = 0; v < NUM_VARS; v++) {
            values[v] = 0;
        }
    }

    private void dropEvent() {
        eventLine = 0;
        eventDepth = 0;
    }

    private int resume(int until) {
        if (runState != S_READY && runState != S_PAUSED) {
            return R_REFUSED;
        }
        int startLine = eventLine;
        int startDepth = eventDepth;
        for (int reached = 1; reached <= eventBudget; reached++) {
            int next = perform();
            if (next == NEXT_IS_FINISH) {
                runState = S_FINISHED;
                dropEvent();
                return R_FINISHED;
            }
            if (next == NEXT_IS_FAULT) {
                runState = S_FAULTED;
                return R_FAULT;
            }
            runState = S_PAUSED;
            eventLine = next;
            eventsReached++;
            if (stepEnds(until, startLine, startDepth)) {
                return R_STEP;
            }
            if (breakpointAt[eventLine]) {
                return R_BREAK;
            }
        }
        return R_LIMIT;
    }

    private boolean stepEnds(int until, int startLine, int startDepth) {
        switch (until) {
            case UNTIL_ALWAYS:
                return true;
            case UNTIL_OVER:
                return eventDepth < startDepth
                        || (eventDepth == startDepth && eventLine != startLine);
            case UNTIL_OUT:
                return eventDepth < startDepth;
            default:
                return false;
        }
    }

    /** Performs the current line and answers the line of the next event, or one of NEXT_IS. */
    private int perform() {
        int a = operandA[eventLine];
        switch (kindOf[eventLine]) {
            case K_SET:
                values[a] = operandB[eventLine];
                return lineAfter(eventLine);
            case K_OP:
                values[a] = values[operandB[eventLine]] + operandC[eventLine];
                return lineAfter(eventLine);
            case K_IF:
            case K_WHILE:
                return lineAfter(values[a] != 0 ? eventLine : partnerOf[eventLine]);
            case K_END:
                return performEnd();
            case K_CALL:
                return enterProcedure(a);
            case K_RET:
                return leaveProcedure();
            default:
                return lineAfter(eventLine);
        }
    }

    private int lineAfter(int line) {
        return landingOf[line + 1];
    }

    // The END of an IF is never an event, so this one closes a WHILE or a PROC.
    private int performEnd() {
        int opening = partnerOf[eventLine];
        return kindOf[opening] == K_WHILE ? opening : leaveProcedure();
    }

    private int enterProcedure(int p) {
        if (eventDepth >= depthLimit) {
            return NEXT_IS_FAULT;
        }
        eventDepth++;
        callLine[eventDepth] = eventLine;
        return procLine[p];
    }

    private int leaveProcedure() {
        if (eventDepth == 0) {
            return NEXT_IS_FINISH;
        }
        int caller = callLine[eventDepth];
        eventDepth--;
        return lineAfter(caller);
    }
}
