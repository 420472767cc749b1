/** A small expression language with effects and one-shot handlers: entered token by token, checked, run. */
public final class EffectHandlers {
    public static final int NUM = 1, VAR = 2, ADD = 3, SUB = 4, MUL = 5, LT = 6, EQ = 7, IF = 8;
    public static final int LET = 9, SEQ = 10, EMIT = 11, PERFORM = 12, HANDLE = 13;
    public static final int RETURN = 14, CASE = 15, END = 16, RESUME = 17;
    public static final int DEEP = 0, SHALLOW = 1;
    public static final int ST_EDITING = 0, ST_READY = 1, ST_DONE = 2, ST_TRAPPED = 3;
    public static final int REFUSED = -1, FULL = -2, BAD_KIND = -3, BAD_ARG = -4;
    public static final int E_NONE = 0, E_TRAILING = 1, E_UNEXPECTED = 2, E_UNBOUND = 3;
    public static final int E_RESUME_OUTSIDE = 4, E_DUP_CASE = 5, E_INCOMPLETE = 6;
    public static final int TRAP_NONE = 0, TRAP_UNHANDLED = 1, TRAP_RESUMED_TWICE = 2;
    public static final int TRAP_LIMIT = 3, TRAP_OUTPUT = 4;
    public static final int MAX_OUTPUT = 16;

    private static final int LEAST_TOKENS = 8, MOST_TOKENS = 32;
    private static final int LEAST_PERFORMS = 1, MOST_PERFORMS = 16;
    private static final int OPERATIONS = 8, MOST_CASES = 256;

    // In a run, a token outside every clause is evaluated once, one in a C at most once
    // for each perform (16), and one in an R once more for each resume (16): 32 times at
    // most. So 32 tokens make fewer than 32 * 32 nodes, and fewer bindings still, since
    // each LET, RETURN or CASE brings tokens with it that bind nothing.
    private static final int MOST_NODES = 1024, MOST_BINDINGS = 1024;
    private static final int MOST_STEPS = 1000000;

    // Index 0 of the nodes and of the bindings is left empty, and token 0 is never a CASE.
    private static final int NONE = 0;

    // A C binds its resumption as a variable whose number no token can name, so that
    // a RESUME finds its activation as a VAR finds its binder.
    private static final int RESUMPTION = 8;

    // How far an open token has come. For all kinds but HANDLE it is the number of
    // parts that are complete; a HANDLE goes back to IN_CLAUSE with every CASE.
    private static final int FIRST_PART = 0, SECOND_PART = 1;
    private static final int WANTS_RETURN = 2, IN_CLAUSE = 3, WANTS_CASE = 4;

    private static final int NO_TOKEN = -1;

    private final int maxTokens;
    private final int maxPerforms;

    private final int[] kinds = new int[MOST_TOKENS];
    private final int[] argA = new int[MOST_TOKENS];
    private final int[] argB = new int[MOST_TOKENS];
    private final int[] argC = new int[MOST_TOKENS];
    private int count;

    // For a token that starts an E: the index behind that E's last token.
    private final int[] after = new int[MOST_TOKENS];

    // The tokens whose E is not complete yet, while compile scans.
    private final int[] openToken = new int[MOST_TOKENS];
    private final int[] openStage = new int[MOST_TOKENS];
    private final int[] openClause = new int[MOST_TOKENS];
    private int openCount;

    // At handle * OPERATIONS + operation: that HANDLE's CASE for the operation, or NONE.
    private final int[] caseFor = new int[MOST_CASES];

    private int status;
    private int errorCode;
    private int errorPos;
    private int trapCode;
    private int trapPos;
    private final int[] emitted = new int[MAX_OUTPUT];
    private int emittedCount;
    private int performCount;
    private int resumeCount;

    // The stack is a chain of nodes, so that a captured part of it is kept and pushed
    // back by changing one link. A HANDLE's node in SECOND_PART is its frame, and what
    // it holds is the handler's parameter.
    private final int[] nodeToken = new int[MOST_NODES];
    private final int[] nodeStage = new int[MOST_NODES];
    private final int[] nodeHeld = new int[MOST_NODES];
    private final int[] nodeScope = new int[MOST_NODES];
    private final int[] nodeBelow = new int[MOST_NODES];
    private int nodeCount;
    private int top;

    private final int[] bindingName = new int[MOST_BINDINGS];
    private final int[] bindingValue = new int[MOST_BINDINGS];
    private final int[] bindingOuter = new int[MOST_BINDINGS];
    private int bindingCount;

    // A resumption without a frame is used.
    private final int[] resumptionFrame = new int[MOST_PERFORMS];
    private final int[] resumptionTop = new int[MOST_PERFORMS];
    private final int[] resumptionBottom = new int[MOST_PERFORMS];

    // What the machine does next: evaluate token `next` in `scope`, or, if that is
    // NO_TOKEN, hand `value` to the top node.
    private int next;
    private int scope;
    private int value;

    public EffectHandlers(int maxTokens, int maxPerforms) {
        this.maxTokens = clamp(maxTokens, LEAST_TOKENS, MOST_TOKENS);
        this.maxPerforms = clamp(maxPerforms, LEAST_PERFORMS, MOST_PERFORMS);
        reset();
    }

    private static int clamp(int number, int least, int greatest) {
        if (number < least) {
            return least;
        }
        return number > greatest ? greatest : number;
    }

    public void reset() {
        count = 0;
        status = ST_EDITING;
        errorCode = E_NONE;
        errorPos = 0;
        forgetRun();
    }

    private void forgetRun() {
        emittedCount = 0;
        performCount = 0;
        resumeCount = 0;
        trapCode = TRAP_NONE;
        trapPos = NO_TOKEN;
    }

    public int token(int kind, int a, int b, int c) {
        if (status != ST_EDITING) {
            return REFUSED;
        }
        if (count >= maxTokens) {
            return FULL;
        }
        if (kind < NUM || kind > RESUME) {
            return BAD_KIND;
        }
        if (!argumentsFit(kind, a, b, c)) {
            return BAD_ARG;
        }
        kinds[count] = kind;
        argA[count] = a;
        argB[count] = b;
        argC[count] = c;
        count++;
        return count;
    }

    private static boolean argumentsFit(int kind, int a, int b, int c) {
        switch (kind) {
            case VAR:
            case LET:
            case PERFORM:
                return isSmall(a);
            case HANDLE:
                return a == DEEP || a == SHALLOW;
            case RETURN:
                return isSmall(a) && isSmall(b);
            case CASE:
                return isSmall(a) && isSmall(b) && isSmall(c);
            default:
                return true;
        }
    }

    /** Variables and operations are numbered alike. */
    private static boolean isSmall(int number) {
        return number >= 0 && number <= 7;
    }

    public int tokenCount() {
        return count;
    }

    public int tokenKind(int i) {
        return i >= 0 && i < count ? kinds[i] : 0;
    }

    public int compile() {
        if (status != ST_EDITING) {
            return REFUSED;
        }
        startScan();
        int error = E_NONE;
        int position = 0;
        while (position < count) {
            error = faultAt(position);
            if (error != E_NONE) {
                break;
            }
            take(position);
            position++;
        }
        if (error == E_NONE && (count == 0 || openCount > 0)) {
            error = E_INCOMPLETE;
        }
        if (error == E_NONE) {
            status = ST_READY;
            position = 0;
        }
        errorCode = error;
        errorPos = position;
        return error;
    }

    private void startScan() {
        openCount = 0;
        for (int i = 0; i < MOST_CASES; i++) {
            caseFor[i] = NONE;
        }
    }

    private int faultAt(int i) {
        if (i > 0 && openCount == 0) {
            return E_TRAILING;
        }
        int kind = kinds[i];
        if (!isAllowedHere(kind)) {
            return E_UNEXPECTED;
        }
        if (kind == VAR && !isBoundHere(argA[i])) {
            return E_UNBOUND;
        }
        if (kind == RESUME && !isBoundHere(RESUMPTION)) {
            return E_RESUME_OUTSIDE;
        }
        if (kind == CASE && caseOf(openToken[openCount - 1], argA[i]) != NONE) {
            return E_DUP_CASE;
        }
        return E_NONE;
    }

    private boolean isAllowedHere(int kind) {
        if (openCount > 0 && kinds[openToken[openCount - 1]] == HANDLE) {
            int stage = openStage[openCount - 1];
            if (stage == WANTS_RETURN) {
                return kind == RETURN;
            }
            if (stage == WANTS_CASE) {
                return kind == CASE || kind == END;
            }
        }
        return kind != RETURN && kind != CASE && kind != END;
    }

    private boolean isBoundHere(int name) {
        for (int i = openCount - 1; i >= 0; i--) {
            if (bindsNow(i, name)) {
                return true;
            }
        }
        return false;
    }

    /** Whether the open token at this depth binds the name for the part of it that the scan is in. */
    private boolean bindsNow(int depth, int name) {
        int opener = openToken[depth];
        if (kinds[opener] == LET) {
            return openStage[depth] == SECOND_PART && argA[opener] == name;
        }
        if (kinds[opener] != HANDLE || openStage[depth] != IN_CLAUSE) {
            return false;
        }
        int clause = openClause[depth];
        if (kinds[clause] == RETURN) {
            return name == argA[clause] || name == argB[clause];
        }
        return name == argB[clause] || name == argC[clause] || name == RESUMPTION;
    }

    private void take(int i) {
        switch (kinds[i]) {
            case NUM:
            case VAR:
                finishPart(i, i + 1);
                break;
            case RETURN:
                startClause(i);
                break;
            case CASE:
                caseFor[openToken[openCount - 1] * OPERATIONS + argA[i]] = i;
                startClause(i);
                break;
            case END:
                openCount--;
                finishPart(openToken[openCount], i + 1);
                break;
            default:
                openToken[openCount] = i;
                openStage[openCount] = FIRST_PART;
                openCount++;
                break;
        }
    }

    private void startClause(int i) {
        openClause[openCount - 1] = i;
        openStage[openCount - 1] = IN_CLAUSE;
    }

    /** Notes that the E from `start` ends before `behind`, and with it every E whose last part it is. */
    private void finishPart(int start, int behind) {
        after[start] = behind;
        while (openCount > 0) {
            int depth = openCount - 1;
            int opener = openToken[depth];
            openStage[depth]++;
            if (kinds[opener] == HANDLE || openStage[depth] < partCount(kinds[opener])) {
                return;
            }
            after[opener] = behind;
            openCount--;
        }
    }

    private static int partCount(int kind) {
        if (kind == EMIT || kind == PERFORM) {
            return 1;
        }
        return kind == IF ? 3 : 2;
    }

    /** The token that follows the E from `start`. Only the whole program has none, and nothing asks for that. */
    private int tokenAfter(int start) {
        int found = start >= 0 && start < count ? after[start] : 0;
        return found < count ? found : 0;
    }

    private int returnOf(int handle) {
        int body = tokenAfter(handle + 1);
        return tokenAfter(body);
    }

    private int caseOf(int handle, int operation) {
        return caseFor[handle * OPERATIONS + operation];
    }

    public int errorCode() {
        return errorCode;
    }

    public int errorPos() {
        return errorPos;
    }

    public int run() {
        if (status == ST_EDITING) {
            return REFUSED;
        }
        forgetRun();
        status = ST_READY;
        nodeCount = NONE + 1;
        bindingCount = NONE + 1;
        top = NONE;
        scope = NONE;
        next = 0;
        for (int step = 0; step < MOST_STEPS && status == ST_READY; step++) {
            if (next == NO_TOKEN) {
                handOver();
            } else {
                evaluate(next);
            }
        }
        return status;
    }

    private void evaluate(int at) {
        int kind = tokenKind(at);
        if (kind == NUM) {
            give(argA[at]);
        } else if (kind == VAR) {
            int found = lookUp(argA[at]);
            give(found);
        } else {
            pushNode(at);
            next = at + 1;
        }
    }

    private void give(int given) {
        value = given;
        next = NO_TOKEN;
    }

    private void pushNode(int at) {
        if (nodeCount < MOST_NODES) {
            nodeToken[nodeCount] = at;
            nodeStage[nodeCount] = FIRST_PART;
            nodeScope[nodeCount] = scope;
            nodeBelow[nodeCount] = top;
            top = nodeCount;
            nodeCount++;
        }
    }

    private void bind(int name, int bound) {
        if (bindingCount < MOST_BINDINGS) {
            bindingName[bindingCount] = name;
            bindingValue[bindingCount] = bound;
            bindingOuter[bindingCount] = scope;
            scope = bindingCount;
            bindingCount++;
        }
    }

    private int lookUp(int name) {
        int binding = scope;
        for (int i = 0; i < MOST_BINDINGS && binding != NONE; i++) {
            if (bindingName[binding] == name) {
                return bindingValue[binding];
            }
            binding = bindingOuter[binding];
        }
        return 0;
    }

    /** Hands the value to the top node, which keeps it and goes on to its second part, or ends with it. */
    private void handOver() {
        if (top == NONE) {
            status = ST_DONE;
            return;
        }
        int node = top;
        int at = nodeToken[node];
        scope = nodeScope[node];
        if (nodeStage[node] == FIRST_PART && keepsFirstValue(kinds[at])) {
            nodeHeld[node] = value;
            nodeStage[node] = SECOND_PART;
            next = tokenAfter(at + 1);
            return;
        }
        top = nodeBelow[node];
        finish(at, nodeHeld[node]);
    }

    private static boolean keepsFirstValue(int kind) {
        return kind >= ADD && kind <= EQ || kind == HANDLE || kind == RESUME;
    }

    private void finish(int at, int held) {
        switch (kinds[at]) {
            case IF:
                choose(at);
                break;
            case LET:
                bind(argA[at], value);
                next = tokenAfter(at + 1);
                break;
            case SEQ:
                next = tokenAfter(at + 1);
                break;
            case EMIT:
                emit(at);
                break;
            case PERFORM:
                perform(at);
                break;
            case HANDLE:
                leaveHandle(at, held);
                break;
            case RESUME:
                resume(at, held);
                break;
            default:
                value = combine(kinds[at], held, value);
                break;
        }
    }

    private static int combine(int kind, int first, int second) {
        switch (kind) {
            case ADD:
                return first + second;
            case SUB:
                return first - second;
            case MUL:
                return first * second;
            case LT:
                return first < second ? 1 : 0;
            default:
                return first == second ? 1 : 0;
        }
    }

    private void choose(int at) {
        next = tokenAfter(at + 1);
        if (value == 0) {
            next = tokenAfter(next);
        }
    }

    private void emit(int at) {
        if (emittedCount >= MAX_OUTPUT) {
            trap(TRAP_OUTPUT, at);
            return;
        }
        emitted[emittedCount] = value;
        emittedCount++;
    }

    private void trap(int code, int at) {
        status = ST_TRAPPED;
        trapCode = code;
        trapPos = at;
    }

    // Where both numbers of a clause are equal, the later binding is the one found: the
    // parameter is bound first here and in startCase.
    private void leaveHandle(int handle, int parameter) {
        int clause = returnOf(handle);
        bind(argB[clause], parameter);
        bind(argA[clause], value);
        next = clause + 1;
    }

    private void perform(int at) {
        if (performCount >= maxPerforms) {
            trap(TRAP_LIMIT, at);
            return;
        }
        performCount++;
        int clause = NONE;
        int frame = top;
        int lowestAbove = NONE;
        for (int i = 0; i < MOST_NODES && frame != NONE; i++) {
            clause = caseOfFrame(frame, argA[at]);
            if (clause != NONE) {
                break;
            }
            lowestAbove = frame;
            frame = nodeBelow[frame];
        }
        if (clause == NONE) {
            trap(TRAP_UNHANDLED, at);
            return;
        }
        int resumption = performCount - 1;
        resumptionFrame[resumption] = frame;
        resumptionTop[resumption] = top;
        resumptionBottom[resumption] = lowestAbove;
        top = nodeBelow[frame];
        startCase(clause, frame, resumption);
    }

    private int caseOfFrame(int node, int operation) {
        int at = nodeToken[node];
        if (kinds[at] != HANDLE || nodeStage[node] != SECOND_PART) {
            return NONE;
        }
        return caseOf(at, operation);
    }

    private void startCase(int clause, int frame, int resumption) {
        scope = nodeScope[frame];
        bind(RESUMPTION, resumption);
        bind(argC[clause], nodeHeld[frame]);
        bind(argB[clause], value);
        next = clause + 1;
    }

    private void resume(int at, int parameter) {
        int resumption = lookUp(RESUMPTION);
        if (!isUnused(resumption)) {
            trap(TRAP_RESUMED_TWICE, at);
            return;
        }
        int frame = resumptionFrame[resumption];
        resumptionFrame[resumption] = NONE;
        resumeCount++;
        if (argA[nodeToken[frame]] == DEEP) {
            nodeHeld[frame] = parameter;
            nodeBelow[frame] = top;
            top = frame;
        }
        int bottom = resumptionBottom[resumption];
        if (bottom != NONE) {
            nodeBelow[bottom] = top;
            top = resumptionTop[resumption];
        }
    }

    private boolean isUnused(int resumption) {
        return resumption >= 0 && resumption < MOST_PERFORMS && resumptionFrame[resumption] != NONE;
    }

    public int status() {
        return status;
    }

    public int result() {
        return status == ST_DONE ? value : 0;
    }

    public int trapCode() {
        return trapCode;
    }

    public int trapPos() {
        return trapPos;
    }

    public int outputCount() {
        return emittedCount;
    }

    public int output(int i) {
        return i >= 0 && i < emittedCount ? emitted[i] : 0;
    }

    public int performCount() {
        return performCount;
    }

    public int resumeCount() {
        return resumeCount;
    }
}
