/**
 * Small programs with functions within functions, made on a stack, and what comes out when they run.
 *
 * <p>A run keeps its own stack of tasks, since the language rules leave no recursion. One bound sizes all arrays of a
 * run: at most 24 programs are made, each is part of at most one other, and so each is visited at most once outside of
 * calls and once within each of at most 60 calls. A task, a waiting result and a closure each need a visit of their
 * own.
 */
public final class ClosureCompiler {
    public static final int BAD_ARG = -1;
    public static final int FULL = -2;
    public static final int TOO_FEW = -3;
    public static final int NONE = -4;
    public static final int NUMBER = 0;
    public static final int CLOSURE = 1;
    public static final int STUCK = 2;
    public static final int TIRED = 3;

    private static final int GREATEST_NUMBER = 9;
    private static final int NAME_COUNT = 4;
    private static final int MOST_MADE = 24;
    private static final int MOST_ON_STACK = 6;
    private static final int MOST_CALLS = 60;

    // The first five are the values of op in two.
    private static final int ADD_PROGRAM = 0;
    private static final int SUB_PROGRAM = 1;
    private static final int MUL_PROGRAM = 2;
    private static final int LESS_PROGRAM = 3;
    private static final int APPLY_PROGRAM = 4;
    private static final int NUMBER_PROGRAM = 5;
    private static final int NAME_PROGRAM = 6;
    private static final int CHOOSE_PROGRAM = 7;
    private static final int BIND_PROGRAM = 8;
    private static final int FUNCTION_PROGRAM = 9;

    private static final int MOST_PARTS = 3;
    private static final int ALL_PARTS = MOST_MADE * MOST_PARTS;

    private static final int MOST_VISITS = MOST_MADE * (1 + MOST_CALLS);
    // A visit opens at most one scope; the one more is the scope of the run's beginning.
    private static final int MOST_SCOPES = 1 + MOST_VISITS;
    private static final int ALL_MEANINGS = MOST_SCOPES * NAME_COUNT;
    // A visit takes at most three steps, so no run comes near this.
    private static final int STEP_LIMIT = 1000000;

    private static final int OUTERMOST_SCOPE = 0;
    private static final int NO_MEANING = -1;
    private static final int STILL_GOING = -1;

    private final int[] programKind = new int[MOST_MADE];
    // The n of a number, the v of a name, a bind and a function.
    private final int[] programDetail = new int[MOST_MADE];
    // The f of a function.
    private final int[] programSelf = new int[MOST_MADE];
    private final int[] programParts = new int[ALL_PARTS];
    private final int[] programFreeNames = new int[MOST_MADE];
    private int madeCount;

    private final int[] stack = new int[MOST_ON_STACK];
    private int stackSize;

    private final int[] taskProgram = new int[MOST_VISITS];
    private final int[] taskScope = new int[MOST_VISITS];
    private final int[] taskPartsDone = new int[MOST_VISITS];
    private int taskCount;

    // Values that are worked out and wait for the task that needs them.
    private final int[] resultKind = new int[MOST_VISITS];
    private final int[] resultValue = new int[MOST_VISITS];
    private int resultCount;

    private final int[] meaningKind = new int[ALL_MEANINGS];
    private final int[] meaningValue = new int[ALL_MEANINGS];
    private int scopeCount;

    private final int[] closureProgram = new int[MOST_VISITS];
    private final int[] closureScope = new int[MOST_VISITS];
    private int closureCount;

    private int callCount;
    private int ending;

    public ClosureCompiler() {
        stackSize = 0;
        madeCount = 0;
    }

    public int number(int n) {
        if (n < -GREATEST_NUMBER || n > GREATEST_NUMBER) {
            return BAD_ARG;
        }
        if (madeCount >= MOST_MADE || stackSize >= MOST_ON_STACK) {
            return FULL;
        }
        return makeProgram(NUMBER_PROGRAM, n, 0, 0);
    }

    public int name(int v) {
        if (!isName(v)) {
            return BAD_ARG;
        }
        if (madeCount >= MOST_MADE || stackSize >= MOST_ON_STACK) {
            return FULL;
        }
        return makeProgram(NAME_PROGRAM, v, 0, 0);
    }

    public int two(int op) {
        if (op < ADD_PROGRAM || op > APPLY_PROGRAM) {
            return BAD_ARG;
        }
        return combine(op, 0, 0, 2);
    }

    public int choose() {
        return combine(CHOOSE_PROGRAM, 0, 0, 3);
    }

    public int bind(int v) {
        if (!isName(v)) {
            return BAD_ARG;
        }
        return combine(BIND_PROGRAM, v, 0, 2);
    }

    public int function(int f, int v) {
        if (!isName(f) || !isName(v)) {
            return BAD_ARG;
        }
        return combine(FUNCTION_PROGRAM, v, f, 1);
    }

    public void discard() {
        stackSize = 0;
        madeCount = 0;
    }

    public int depth() {
        return stackSize;
    }

    public int made() {
        return madeCount;
    }

    public int run() {
        if (stackSize == 0) {
            return NONE;
        }
        runTop();
        return ending;
    }

    public int value() {
        if (stackSize == 0) {
            return 0;
        }
        runTop();
        return ending == NUMBER ? resultValue[0] : 0;
    }

    public int calls() {
        if (stackSize == 0) {
            return 0;
        }
        runTop();
        return callCount;
    }

    public int closures() {
        if (stackSize == 0) {
            return 0;
        }
        runTop();
        return closureCount;
    }

    public int free() {
        if (stackSize == 0) {
            return NONE;
        }
        return programFreeNames[stack[stackSize - 1]];
    }

    private static boolean isName(int v) {
        return v >= 0 && v < NAME_COUNT;
    }

    private int combine(int kind, int detail, int self, int partCount) {
        if (madeCount >= MOST_MADE) {
            return FULL;
        }
        if (stackSize < partCount) {
            return TOO_FEW;
        }
        return makeProgram(kind, detail, self, partCount);
    }

    private int makeProgram(int kind, int detail, int self, int partCount) {
        int program = madeCount;
        int base = stackSize - partCount;
        programKind[program] = kind;
        programDetail[program] = detail;
        programSelf[program] = self;
        for (int i = 0; i < partCount; i++) {
            programParts[program * MOST_PARTS + i] = stack[base + i];
        }
        programFreeNames[program] = findFreeNames(program);
        madeCount++;
        stack[base] = program;
        stackSize = base + 1;
        return stackSize;
    }

    // The parts were made before, so their own sets stand already.
    private int findFreeNames(int program) {
        int detail = programDetail[program];
        switch (programKind[program]) {
            case NUMBER_PROGRAM:
                return 0;
            case NAME_PROGRAM:
                return 1 << detail;
            case FUNCTION_PROGRAM:
                return freeNamesOfPart(program, 0) & ~(1 << detail) & ~(1 << programSelf[program]);
            case BIND_PROGRAM:
                return freeNamesOfPart(program, 0) | (freeNamesOfPart(program, 1) & ~(1 << detail));
            case CHOOSE_PROGRAM:
                return freeNamesOfPart(program, 0) | freeNamesOfPart(program, 1) | freeNamesOfPart(program, 2);
            default:
                return freeNamesOfPart(program, 0) | freeNamesOfPart(program, 1);
        }
    }

    private int freeNamesOfPart(int program, int part) {
        return programFreeNames[programParts[program * MOST_PARTS + part]];
    }

    private void runTop() {
        beginRun();
        for (int step = 0; step < STEP_LIMIT && ending == STILL_GOING; step++) {
            if (taskCount == 0) {
                ending = resultKind[0];
            } else if (topTaskNeedsPart()) {
                beginNextPart();
            } else {
                completeTopTask();
            }
        }
    }

    private void beginRun() {
        taskCount = 0;
        resultCount = 0;
        closureCount = 0;
        callCount = 0;
        ending = STILL_GOING;
        scopeCount = 1;
        for (int v = 0; v < NAME_COUNT; v++) {
            setMeaning(OUTERMOST_SCOPE, v, NO_MEANING, 0);
        }
        beginTask(stack[stackSize - 1], OUTERMOST_SCOPE);
    }

    private boolean topTaskNeedsPart() {
        int task = taskCount - 1;
        int needed = partsWorkedOutFirst(programKind[taskProgram[task]]);
        return taskPartsDone[task] < needed;
    }

    private void beginNextPart() {
        int task = taskCount - 1;
        int part = taskPartsDone[task];
        taskPartsDone[task] = part + 1;
        beginTask(programParts[taskProgram[task] * MOST_PARTS + part], taskScope[task]);
    }

    private static int partsWorkedOutFirst(int kind) {
        switch (kind) {
            case NUMBER_PROGRAM:
            case NAME_PROGRAM:
            case FUNCTION_PROGRAM:
                return 0;
            case CHOOSE_PROGRAM:
            case BIND_PROGRAM:
                return 1;
            default:
                return 2;
        }
    }

    private void completeTopTask() {
        int program = taskProgram[taskCount - 1];
        int scope = taskScope[taskCount - 1];
        switch (programKind[program]) {
            case NUMBER_PROGRAM:
                endTask(NUMBER, programDetail[program]);
                break;
            case NAME_PROGRAM:
                completeName(program, scope);
                break;
            case FUNCTION_PROGRAM:
                completeFunction(program, scope);
                break;
            case CHOOSE_PROGRAM:
                completeChoose(program, scope);
                break;
            case BIND_PROGRAM:
                completeBind(program, scope);
                break;
            case APPLY_PROGRAM:
                completeApply();
                break;
            default:
                completeArithmetic(programKind[program]);
                break;
        }
    }

    private void completeName(int program, int scope) {
        int at = scope * NAME_COUNT + programDetail[program];
        if (meaningKind[at] == NO_MEANING) {
            ending = STUCK;
        } else {
            endTask(meaningKind[at], meaningValue[at]);
        }
    }

    private void completeFunction(int program, int scope) {
        int closure = closureCount;
        closureProgram[closure] = program;
        closureScope[closure] = scope;
        closureCount++;
        endTask(CLOSURE, closure);
    }

    private void completeChoose(int program, int scope) {
        resultCount--;
        if (resultKind[resultCount] != NUMBER) {
            ending = STUCK;
            return;
        }
        int part = resultValue[resultCount] != 0 ? 1 : 2;
        replaceTask(programParts[program * MOST_PARTS + part], scope);
    }

    private void completeBind(int program, int scope) {
        resultCount--;
        int inner = openScope(scope);
        setMeaning(inner, programDetail[program], resultKind[resultCount], resultValue[resultCount]);
        replaceTask(programParts[program * MOST_PARTS + 1], inner);
    }

    private void completeApply() {
        resultCount -= 2;
        if (resultKind[resultCount] != CLOSURE) {
            ending = STUCK;
            return;
        }
        if (callCount >= MOST_CALLS) {
            ending = TIRED;
            return;
        }
        callCount++;
        int closure = resultValue[resultCount];
        int program = closureProgram[closure];
        int inner = openScope(closureScope[closure]);
        // In this order, since the argument's meaning wins where f and v are one name.
        setMeaning(inner, programSelf[program], CLOSURE, closure);
        setMeaning(inner, programDetail[program], resultKind[resultCount + 1], resultValue[resultCount + 1]);
        replaceTask(programParts[program * MOST_PARTS], inner);
    }

    private void completeArithmetic(int kind) {
        resultCount -= 2;
        if (resultKind[resultCount] != NUMBER || resultKind[resultCount + 1] != NUMBER) {
            ending = STUCK;
            return;
        }
        int result = calculate(kind, resultValue[resultCount], resultValue[resultCount + 1]);
        endTask(NUMBER, result);
    }

    private static int calculate(int kind, int x, int y) {
        switch (kind) {
            case ADD_PROGRAM:
                return x + y;
            case SUB_PROGRAM:
                return x - y;
            case MUL_PROGRAM:
                return x * y;
            case LESS_PROGRAM:
            default:
                return x < y ? 1 : 0;
        }
    }

    private void beginTask(int program, int scope) {
        taskCount++;
        replaceTask(program, scope);
    }

    private void replaceTask(int program, int scope) {
        int task = taskCount - 1;
        taskProgram[task] = program;
        taskScope[task] = scope;
        taskPartsDone[task] = 0;
    }

    private void endTask(int kind, int value) {
        taskCount--;
        resultKind[resultCount] = kind;
        resultValue[resultCount] = value;
        resultCount++;
    }

    // A scope is never changed after its task has begun, so closures can share it.
    private int openScope(int outer) {
        int inner = scopeCount;
        scopeCount++;
        for (int v = 0; v < NAME_COUNT; v++) {
            int from = outer * NAME_COUNT + v;
            setMeaning(inner, v, meaningKind[from], meaningValue[from]);
        }
        return inner;
    }

    private void setMeaning(int scope, int v, int kind, int value) {
        meaningKind[scope * NAME_COUNT + v] = kind;
        meaningValue[scope * NAME_COUNT + v] = value;
    }
}
