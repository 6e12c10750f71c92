/** What an observer of a small program's outputs can learn about its secret. */
public final class LeakageMeter {
    private static final int SET = 0;
    private static final int COPY = 1;
    private static final int ADD = 2;
    private static final int SUB = 3;
    private static final int MUL = 4;
    private static final int AND = 5;
    private static final int OR = 6;
    private static final int XOR = 7;
    private static final int UP = 8;
    private static final int DOWN = 9;
    private static final int LESS = 10;
    private static final int EQUAL = 11;
    private static final int OUT = 12;
    private static final int IF = 13;
    private static final int ELSE = 14;
    private static final int END = 15;

    private static final int REFUSED = -1;
    private static final int NO_OUTPUT = -1;

    private static final int MOST_STATEMENTS = 40;
    private static final int MOST_OPEN_PARTS = 4;
    private static final int SECRETS = 64;
    private static final int VARIABLES = 4;
    private static final int VIEW_SIZE = 7;
    private static final int ALL_ENDS = SECRETS * VARIABLES;
    private static final int ALL_VIEWS = SECRETS * VIEW_SIZE;

    private static final int SECRET_MASK = SECRETS - 1;
    private static final int VARIABLE_MASK = VARIABLES - 1;
    private static final int VALUE_MASK = 255;
    private static final int SHIFT_MASK = 7;

    private final int[] codes = new int[MOST_STATEMENTS];
    private final int[] firsts = new int[MOST_STATEMENTS];
    private final int[] seconds = new int[MOST_STATEMENTS];
    private final int[] targets = new int[MOST_STATEMENTS];
    private int statementCount;

    // For each open part the IF or ELSE whose target is not known yet.
    private final int[] waiting = new int[MOST_OPEN_PARTS];
    private int openCount;

    // What the present program does, kept per secret, so that a question only has to look.
    private final int[] endValues = new int[ALL_ENDS];
    private final int[] viewValues = new int[ALL_VIEWS];
    private final int[] viewLengths = new int[SECRETS];
    private final int[] leastAlike = new int[SECRETS];

    public LeakageMeter() {
        statementCount = 0;
        openCount = 0;
        measure();
    }

    public int add(int code, int a, int b) {
        if (!hasPlace(code)) {
            return REFUSED;
        }
        codes[statementCount] = code;
        firsts[statementCount] = a;
        seconds[statementCount] = b;
        // Behind every statement there can be: a part that stays open ends with the program.
        targets[statementCount] = MOST_STATEMENTS;
        tieToPart(code, statementCount);
        statementCount++;
        measure();
        return statementCount;
    }

    public void clear() {
        statementCount = 0;
        openCount = 0;
        measure();
    }

    public int open() {
        return openCount;
    }

    public int classes() {
        return differentViews(0, SECRETS - 1);
    }

    public int least(int secret) {
        return leastAlike[secret & SECRET_MASK];
    }

    public int alike(int secret) {
        int wanted = leastAlike[secret & SECRET_MASK];
        int found = 0;
        for (int other = 0; other < SECRETS; other++) {
            if (leastAlike[other] == wanted) {
                found++;
            }
        }
        return found;
    }

    public int outputs(int secret) {
        return viewLengths[secret & SECRET_MASK];
    }

    public int output(int secret, int place) {
        int known = secret & SECRET_MASK;
        if (place < 0 || place >= viewLengths[known]) {
            return NO_OUTPUT;
        }
        return viewValues[known * VIEW_SIZE + place];
    }

    public int end(int secret, int a) {
        return endValues[(secret & SECRET_MASK) * VARIABLES + (a & VARIABLE_MASK)];
    }

    public int guessed(int from, int to) {
        int first = from & SECRET_MASK;
        int last = to & SECRET_MASK;
        return first <= last ? differentViews(first, last) : differentViews(last, first);
    }

    private boolean hasPlace(int code) {
        if (code < SET || code > END || statementCount >= MOST_STATEMENTS) {
            return false;
        }
        switch (code) {
            case IF:
                return openCount < MOST_OPEN_PARTS;
            case ELSE:
                return openCount > 0 && codes[waiting[openCount - 1]] == IF;
            case END:
                return openCount > 0;
            default:
                return true;
        }
    }

    private void tieToPart(int code, int at) {
        switch (code) {
            case IF:
                waiting[openCount] = at;
                openCount++;
                break;
            case ELSE:
                targets[waiting[openCount - 1]] = at + 1;
                waiting[openCount - 1] = at;
                break;
            case END:
                openCount--;
                targets[waiting[openCount]] = at + 1;
                break;
            default:
                break;
        }
    }

    private void measure() {
        for (int secret = 0; secret < SECRETS; secret++) {
            runProgram(secret);
        }
        for (int secret = 0; secret < SECRETS; secret++) {
            leastAlike[secret] = firstWithSameView(secret);
        }
    }

    private void runProgram(int secret) {
        int base = secret * VARIABLES;
        endValues[base] = secret;
        for (int variable = 1; variable < VARIABLES; variable++) {
            endValues[base + variable] = 0;
        }
        viewLengths[secret] = 0;
        // Every jump leads forward, so one pass that leaves statements out is enough.
        int next = 0;
        for (int at = 0; at < statementCount; at++) {
            if (at >= next) {
                next = carryOut(secret, at);
            }
        }
    }

    /** Answers where the program goes on. */
    private int carryOut(int secret, int at) {
        int base = secret * VARIABLES;
        int place = base + (firsts[at] & VARIABLE_MASK);
        int x = endValues[place];
        int y = endValues[base + (seconds[at] & VARIABLE_MASK)];
        switch (codes[at]) {
            case OUT:
                putOut(secret, x);
                return at + 1;
            case IF:
                return x != 0 ? at + 1 : targets[at];
            case ELSE:
                // An IF that fails goes on behind its ELSE: here the part before has been carried out.
                return targets[at];
            case END:
                return at + 1;
            default:
                endValues[place] = computed(codes[at], x, y, seconds[at]) & VALUE_MASK;
                return at + 1;
        }
    }

    private static int computed(int code, int x, int y, int b) {
        switch (code) {
            case SET:
                return b;
            case COPY:
                return y;
            case ADD:
                return x + y;
            case SUB:
                return x - y;
            case MUL:
                return x * y;
            case AND:
                return x & y;
            case OR:
                return x | y;
            case XOR:
                return x ^ y;
            case UP:
                return x << (b & SHIFT_MASK);
            case DOWN:
                return x >> (b & SHIFT_MASK);
            case LESS:
                return x < y ? 1 : 0;
            case EQUAL:
                return x == y ? 1 : 0;
            default:
                return x;
        }
    }

    private void putOut(int secret, int value) {
        int length = viewLengths[secret];
        if (length < VIEW_SIZE) {
            viewValues[secret * VIEW_SIZE + length] = value;
            viewLengths[secret] = length + 1;
        }
    }

    private int firstWithSameView(int secret) {
        for (int other = 0; other < secret; other++) {
            if (haveSameView(other, secret)) {
                return other;
            }
        }
        return secret;
    }

    private boolean haveSameView(int one, int other) {
        if (viewLengths[one] != viewLengths[other]) {
            return false;
        }
        for (int place = 0; place < viewLengths[one]; place++) {
            if (viewValues[one * VIEW_SIZE + place] != viewValues[other * VIEW_SIZE + place]) {
                return false;
            }
        }
        return true;
    }

    private int differentViews(int first, int last) {
        int found = 0;
        for (int secret = first; secret <= last; secret++) {
            if (isFirstOfItsView(first, secret)) {
                found++;
            }
        }
        return found;
    }

    private boolean isFirstOfItsView(int first, int secret) {
        for (int other = first; other < secret; other++) {
            if (leastAlike[other] == leastAlike[secret]) {
                return false;
            }
        }
        return true;
    }
}
