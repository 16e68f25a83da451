public final class SelfModArrayComp {
    public static final int SET = 0;
    public static final int ADD = 1;
    public static final int SUB = 2;
    public static final int MUL = 3;
    public static final int GET = 4;
    public static final int PUT = 5;
    public static final int IFPOS = 6;
    public static final int LOOP = 7;
    public static final int END = 8;
    public static final int CALL = 9;
    public static final int PRINT = 10;
    public static final int BODY = 11;
    public static final int OK = 0;
    public static final int BAD = -1;
    public static final int FULL = -2;
    public static final int MALFORMED = -3;
    public static final int TWICE = -4;
    public static final int MISSING = -5;
    public static final int RECURSIVE = -6;
    public static final int TOO_LONG = -7;

    private static final int VARIABLES = 8;
    private static final int ARRAYS = 3;
    private static final int CELLS_EACH = 8;
    private static final int CELL_MASK = 7;
    private static final int ALL_CELLS = 24;
    private static final int MOST_STATEMENTS = 48;
    private static final int MOST_KEPT = 48;
    private static final int MOST_OPEN = 3;
    private static final int MOST_ROUNDS = 5;
    private static final int SUBROUTINES = 4;
    // The pieces of the subroutines have the subroutines' numbers, the main piece the number after them.
    private static final int MAIN = 4;
    private static final int PIECES = 5;
    private static final int NOWHERE = -1;
    private static final long HEAVIEST = 3000;
    // A program of weight 3000 takes some 9000 steps at most: a LOOP 5 with nothing inside weighs 2
    // and takes six, a CALL of an empty piece weighs 1 and takes two.
    private static final int MOST_STEPS = 1000000;

    private final int[] kinds = new int[MOST_STATEMENTS];
    private final int[] firsts = new int[MOST_STATEMENTS];
    private final int[] seconds = new int[MOST_STATEMENTS];
    private final int[] thirds = new int[MOST_STATEMENTS];
    private int size = 0;

    private final int[] startValues = new int[VARIABLES];
    private final int[] variables = new int[VARIABLES];
    private final int[] cells = new int[ALL_CELLS];
    private final int[] kept = new int[MOST_KEPT];
    private int printedCount = 0;

    // What the test for faults finds out about the program; it is found anew each time, and a run uses it.
    private final int[] openAt = new int[MOST_OPEN];
    private final int[] partner = new int[MOST_STATEMENTS];
    private final int[] owner = new int[MOST_STATEMENTS];
    private final int[] bodyAt = new int[SUBROUTINES];
    private final int[] reached = new int[PIECES];
    private final long[] passes = new long[MOST_STATEMENTS];
    private final long[] weights = new long[PIECES];

    // A subroutine without recursion is entered at most once at a time, and so is a LOOP: one place for
    // each of them does the work of a stack.
    private final int[] roundsLeft = new int[MOST_STATEMENTS];
    private final int[] returnTo = new int[SUBROUTINES];
    private final int[] callerOf = new int[SUBROUTINES];
    private int currentPiece = MAIN;

    public SelfModArrayComp() {
    }

    public int add(int kind, int a, int b, int c) {
        if (size >= MOST_STATEMENTS) {
            return FULL;
        }
        if (!isStatement(kind, a, b, c)) {
            return BAD;
        }
        kinds[size] = kind;
        firsts[size] = a;
        seconds[size] = b;
        thirds[size] = c;
        size++;
        return size;
    }

    public int retract() {
        if (size <= 0) {
            return BAD;
        }
        size--;
        return size;
    }

    public boolean start(int v, int value) {
        if (!isVariable(v)) {
            return false;
        }
        startValues[v] = value;
        return true;
    }

    public int check() {
        return findFault();
    }

    public int run() {
        int fault = findFault();
        if (fault != OK) {
            return fault;
        }
        beginRun();
        passMainPiece();
        return printedCount;
    }

    public int printed() {
        return printedCount;
    }

    public int output(int k) {
        if (k < 0 || k >= printedCount || k >= MOST_KEPT) {
            return 0;
        }
        return kept[k];
    }

    public int variable(int v) {
        if (!isVariable(v)) {
            return 0;
        }
        return variables[v];
    }

    public int cell(int array, int i) {
        if (!isArray(array) || i < 0 || i >= CELLS_EACH) {
            return 0;
        }
        return cells[array * CELLS_EACH + i];
    }

    public void clear() {
        size = 0;
        for (int v = 0; v < VARIABLES; v++) {
            startValues[v] = 0;
        }
        // With all start values 0, what a run begins with is what a new object has.
        beginRun();
    }

    private static boolean isVariable(int v) {
        return v >= 0 && v < VARIABLES;
    }

    private static boolean isArray(int array) {
        return array >= 0 && array < ARRAYS;
    }

    private static boolean isSubroutine(int s) {
        return s >= 0 && s < SUBROUTINES;
    }

    private static boolean isStatement(int kind, int a, int b, int c) {
        switch (kind) {
            case SET:
            case IFPOS:
            case PRINT:
                return isVariable(a);
            case ADD:
            case SUB:
            case MUL:
                return isVariable(a) && isVariable(b) && isVariable(c);
            case GET:
            case PUT:
                return isVariable(a) && isArray(b) && isVariable(c);
            case LOOP:
                return a >= 1 && a <= MOST_ROUNDS;
            case CALL:
            case BODY:
                return isSubroutine(a);
            case END:
                return true;
            default:
                return false;
        }
    }

    // The order of the tests is the document's, and each of them rests on those before it.
    private int findFault() {
        if (!pairEnds()) {
            return MALFORMED;
        }
        if (!placeBodies()) {
            return TWICE;
        }
        if (!allCallsHaveBodies()) {
            return MISSING;
        }
        if (someSubroutineReachesItself()) {
            return RECURSIVE;
        }
        if (weighMainPiece() > HEAVIEST) {
            return TOO_LONG;
        }
        return OK;
    }

    private boolean pairEnds() {
        int open = 0;
        for (int i = 0; i < size; i++) {
            int kind = kinds[i];
            if (kind == BODY && open > 0) {
                return false;
            }
            if (kind == IFPOS || kind == LOOP) {
                if (open >= MOST_OPEN) {
                    return false;
                }
                openAt[open] = i;
                open++;
            }
            if (kind == END) {
                if (open <= 0) {
                    return false;
                }
                open--;
                partner[i] = openAt[open];
                partner[openAt[open]] = i;
            }
        }
        return open == 0;
    }

    private boolean placeBodies() {
        for (int s = 0; s < SUBROUTINES; s++) {
            bodyAt[s] = NOWHERE;
        }
        int piece = MAIN;
        for (int i = 0; i < size; i++) {
            if (kinds[i] == BODY) {
                piece = firsts[i];
                if (bodyAt[piece] != NOWHERE) {
                    return false;
                }
                bodyAt[piece] = i;
            }
            owner[i] = piece;
        }
        return true;
    }

    private boolean allCallsHaveBodies() {
        for (int i = 0; i < size; i++) {
            if (kinds[i] == CALL && bodyAt[firsts[i]] == NOWHERE) {
                return false;
            }
        }
        return true;
    }

    private boolean someSubroutineReachesItself() {
        noteDirectCalls();
        // Warshall's order: after each turn the sets hold all ways whose inner stops are the turns so far.
        for (int via = 0; via < SUBROUTINES; via++) {
            for (int from = 0; from < SUBROUTINES; from++) {
                if (reaches(from, via)) {
                    reached[from] |= reached[via];
                }
            }
        }
        for (int s = 0; s < SUBROUTINES; s++) {
            if (reaches(s, s)) {
                return true;
            }
        }
        return false;
    }

    private void noteDirectCalls() {
        for (int piece = 0; piece < PIECES; piece++) {
            reached[piece] = 0;
        }
        for (int i = 0; i < size; i++) {
            if (kinds[i] == CALL) {
                reached[owner[i]] |= 1 << firsts[i];
            }
        }
    }

    private boolean reaches(int from, int to) {
        return (reached[from] & (1 << to)) != 0;
    }

    private long weighMainPiece() {
        countPasses();
        // Each turn makes right the pieces whose calls all lead to right ones, whatever stood there before,
        // and no way of calls is longer than the number of pieces.
        for (int turn = 0; turn < PIECES; turn++) {
            for (int piece = 0; piece < PIECES; piece++) {
                weights[piece] = weighPiece(piece);
            }
        }
        return weights[MAIN];
    }

    // How often each statement counts in the weight of its own piece.
    private void countPasses() {
        long factor = 1;
        for (int i = 0; i < size; i++) {
            passes[i] = factor;
            if (kinds[i] == LOOP) {
                factor *= firsts[i];
            }
            if (kinds[i] == END) {
                factor = passes[partner[i]];
            }
        }
    }

    private long weighPiece(int piece) {
        long weight = 0;
        for (int i = 0; i < size; i++) {
            if (owner[i] == piece) {
                weight += passes[i] * weighStatement(i);
            }
        }
        return weight;
    }

    private long weighStatement(int i) {
        switch (kinds[i]) {
            case IFPOS:
            case LOOP:
                return 2;
            case END:
            case BODY:
                // An END is weighed with what it closes, and a BODY is in no piece.
                return 0;
            case CALL:
                return 1 + weights[firsts[i]];
            default:
                return 1;
        }
    }

    private void beginRun() {
        for (int v = 0; v < VARIABLES; v++) {
            variables[v] = startValues[v];
        }
        for (int i = 0; i < ALL_CELLS; i++) {
            cells[i] = 0;
        }
        printedCount = 0;
        currentPiece = MAIN;
    }

    private void passMainPiece() {
        int at = 0;
        for (int step = 0; step < MOST_STEPS; step++) {
            boolean pieceIsOver = at >= size || kinds[at] == BODY;
            if (pieceIsOver && currentPiece == MAIN) {
                return;
            }
            at = pieceIsOver ? leaveSubroutine() : passStatement(at);
        }
    }

    // Answers where the run goes on.
    private int passStatement(int at) {
        int next = at + 1;
        int a = firsts[at];
        switch (kinds[at]) {
            case IFPOS:
                return variables[a] > 0 ? next : partner[at] + 1;
            case LOOP:
                roundsLeft[at] = a;
                return next;
            case END:
                return passEnd(at);
            case CALL:
                return enterSubroutine(a, next);
            case PRINT:
                print(variables[a]);
                return next;
            default:
                compute(at);
                return next;
        }
    }

    private int passEnd(int at) {
        int opener = partner[at];
        if (kinds[opener] == LOOP) {
            roundsLeft[opener]--;
            if (roundsLeft[opener] > 0) {
                return opener + 1;
            }
        }
        return at + 1;
    }

    private int enterSubroutine(int s, int backTo) {
        returnTo[s] = backTo;
        callerOf[s] = currentPiece;
        currentPiece = s;
        return bodyAt[s] + 1;
    }

    private int leaveSubroutine() {
        int left = currentPiece;
        currentPiece = callerOf[left];
        return returnTo[left];
    }

    private void print(int value) {
        if (printedCount < MOST_KEPT) {
            kept[printedCount] = value;
        }
        printedCount++;
    }

    private void compute(int at) {
        int a = firsts[at];
        int b = seconds[at];
        int c = thirds[at];
        switch (kinds[at]) {
            case SET:
                variables[a] = b;
                break;
            case ADD:
                variables[a] = variables[b] + variables[c];
                break;
            case SUB:
                variables[a] = variables[b] - variables[c];
                break;
            case MUL:
                variables[a] = variables[b] * variables[c];
                break;
            case GET:
                variables[a] = cells[b * CELLS_EACH + (variables[c] & CELL_MASK)];
                break;
            case PUT:
                cells[b * CELLS_EACH + (variables[c] & CELL_MASK)] = variables[a];
                break;
            default:
                break;
        }
    }
}
