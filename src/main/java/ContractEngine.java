/** Runs small contracts whose every step is paid and whose changes are undone when they fail. */
public final class ContractEngine {
    public static final int OK = 0;
    public static final int REVERTED = 1;
    public static final int OUT = 2;
    public static final int FAULT = 3;
    public static final int DENIED = 4;
    public static final int REFUSED = -1;

    private static final int PUSH = 0;
    private static final int ARG = 1;
    private static final int CALLER = 2;
    private static final int SELF = 3;
    private static final int VALUE = 4;
    private static final int HAS = 5;
    private static final int LOAD = 6;
    private static final int STORE = 7;
    private static final int ADD = 8;
    private static final int SUB = 9;
    private static final int MUL = 10;
    private static final int LESS = 11;
    private static final int SAME = 12;
    private static final int DUP = 13;
    private static final int DROP = 14;
    private static final int SWAP = 15;
    private static final int JUMP = 16;
    private static final int JZERO = 17;
    private static final int CALL = 18;
    private static final int RETURN = 19;
    private static final int REVERT = 20;
    private static final int LOG = 21;
    private static final int LEFT = 22;
    private static final int SEND = 23;

    private static final int LEAST_LIMIT = 20;
    private static final int MOST_LIMIT = 400;
    private static final int MOST_MONEY = 1000000000;
    private static final int REFUND_OF_STORE = 4;

    private static final int OUTSIDE = -1;
    private static final int ACCOUNTS = 6;

    // An account's row in a state: its four cells, then its balance, as past() numbers them.
    private static final int CELLS = 4;
    private static final int CELL_MASK = 3;
    private static final int BALANCE = 4;
    private static final int ROW = 5;
    private static final int STATE = ACCOUNTS * ROW;

    // The pending program is held in one more row behind those of the accounts.
    private static final int PROGRAM = 24;
    private static final int PENDING = ACCOUNTS;
    private static final int PROGRAMS = ACCOUNTS + 1;
    private static final int ALL_INSTRUCTIONS = PROGRAMS * PROGRAM;

    private static final int MOST_UNDER_WAY = 5;
    private static final int STACK = 6;
    private static final int ALL_STACKS = MOST_UNDER_WAY * STACK;
    private static final int ALL_SAVED = MOST_UNDER_WAY * STATE;

    private static final int MOST_EVENTS = 20;
    private static final int EVENT_PARTS = 3;
    private static final int ALL_EVENTS = MOST_EVENTS * EVENT_PARTS;

    private static final int MOST_WAITING = 6;
    private static final int MESSAGE_PARTS = 4;
    private static final int ALL_MESSAGES = MOST_WAITING * MESSAGE_PARTS;

    private static final int MOST_KEPT = 6;
    private static final int VERSIONS = MOST_KEPT + 1;
    private static final int ALL_VERSIONS = VERSIONS * STATE;

    // Energy ends every run after some hundreds of steps: this bound is never met.
    private static final int MOST_STEPS = 1000000;

    private final int limit;

    private final int[] programOp = new int[ALL_INSTRUCTIONS];
    private final int[] programNumber = new int[ALL_INSTRUCTIONS];
    private final int[] programLength = new int[PROGRAMS];

    private final int[] state = new int[STATE];

    // A ring of states: the present version at presentSlot, the older ones before it.
    private final int[] versions = new int[ALL_VERSIONS];
    private int presentSlot = 0;
    private int versionNumber = 0;
    private int keptCount = 0;

    private final int[] eventList = new int[ALL_EVENTS];
    private int eventCount = 0;

    private final int[] messages = new int[ALL_MESSAGES];
    private int waiting = 0;

    // One bit for each place of a state; those of the balances stay 0.
    private int warm = 0;
    private int refund = 0;

    // The calls under way, the outermost at 0: recursion is replaced by these arrays.
    private int depth = 0;
    private final int[] ownAccount = new int[MOST_UNDER_WAY];
    private final int[] callerOf = new int[MOST_UNDER_WAY];
    private final int[] amountOf = new int[MOST_UNDER_WAY];
    private final int[] argumentOf = new int[MOST_UNDER_WAY];
    private final int[] energyGiven = new int[MOST_UNDER_WAY];
    private final int[] energyLeft = new int[MOST_UNDER_WAY];
    private final int[] position = new int[MOST_UNDER_WAY];
    private final int[] stackHeight = new int[MOST_UNDER_WAY];
    private final int[] stack = new int[ALL_STACKS];

    // What each call under way found at its beginning, to be put back if it is undone.
    private final int[] savedState = new int[ALL_SAVED];
    private final int[] savedEvents = new int[MOST_UNDER_WAY];
    private final int[] savedWaiting = new int[MOST_UNDER_WAY];
    private final int[] savedWarm = new int[MOST_UNDER_WAY];
    private final int[] savedRefund = new int[MOST_UNDER_WAY];

    private int endedAs = OK;
    private int endedResult = 0;

    private int latestResult = 0;
    private int latestUsed = 0;
    private int latestCalls = 0;

    public ContractEngine(int limit) {
        if (limit < LEAST_LIMIT) {
            this.limit = LEAST_LIMIT;
        } else if (limit > MOST_LIMIT) {
            this.limit = MOST_LIMIT;
        } else {
            this.limit = limit;
        }
    }

    public int put(int op, int b) {
        int length = programLength[PENDING];
        if (op < PUSH || op > SEND || length >= PROGRAM) {
            return REFUSED;
        }
        programOp[PENDING * PROGRAM + length] = op;
        programNumber[PENDING * PROGRAM + length] = b;
        programLength[PENDING] = length + 1;
        return length + 1;
    }

    public int deploy(int account) {
        int length = programLength[PENDING];
        programLength[PENDING] = 0;
        if (!isAccount(account) || length == 0) {
            return REFUSED;
        }
        for (int i = 0; i < PROGRAM; i++) {
            programOp[account * PROGRAM + i] = programOp[PENDING * PROGRAM + i];
            programNumber[account * PROGRAM + i] = programNumber[PENDING * PROGRAM + i];
        }
        programLength[account] = length;
        return length;
    }

    public int call(int account, int amount, int arg, int energy) {
        if (!isAccount(account) || energy < 0 || energy > limit) {
            return REFUSED;
        }
        latestResult = 0;
        latestUsed = 0;
        latestCalls = 0;
        if (isDenied(OUTSIDE, account, amount)) {
            return DENIED;
        }
        eventCount = 0;
        waiting = 0;
        warm = 0;
        refund = 0;
        int left = runCall(OUTSIDE, account, amount, arg, energy);
        int how = endedAs;
        latestResult = endedResult;
        if (how == OK) {
            left = runMessages(left);
            addVersion();
        }
        latestUsed = lessRefund(energy - left);
        return how;
    }

    public int result() {
        return latestResult;
    }

    public int used() {
        return latestUsed;
    }

    public int calls() {
        return latestCalls;
    }

    public int events() {
        return eventCount;
    }

    public int event(int k, int which) {
        if (k < 0 || k >= eventCount || which < 0 || which >= EVENT_PARTS) {
            return 0;
        }
        return eventList[k * EVENT_PARTS + which];
    }

    public int balance(int account) {
        if (!isAccount(account)) {
            return 0;
        }
        return state[account * ROW + BALANCE];
    }

    public int cell(int account, int k) {
        if (!isAccount(account) || k < 0 || k >= CELLS) {
            return 0;
        }
        return state[account * ROW + k];
    }

    public long digest(int n) {
        if (n < 0 || n > keptCount) {
            return 0;
        }
        int start = slotOf(n) * STATE;
        long h = 1;
        for (int account = 0; account < ACCOUNTS; account++) {
            int row = start + account * ROW;
            h = h * 31 + versions[row + BALANCE];
            for (int k = 0; k < CELLS; k++) {
                h = h * 31 + versions[row + k];
            }
        }
        return h;
    }

    public int past(int n, int account, int k) {
        if (n < 0 || n > keptCount || !isAccount(account) || k < 0 || k >= ROW) {
            return 0;
        }
        int slot = slotOf(n);
        return versions[slot * STATE + account * ROW + k];
    }

    public int back(int n) {
        if (n < 1 || n > keptCount) {
            return REFUSED;
        }
        presentSlot = slotOf(n);
        for (int i = 0; i < STATE; i++) {
            state[i] = versions[presentSlot * STATE + i];
        }
        keptCount -= n;
        versionNumber -= n;
        return versionNumber;
    }

    public int version() {
        return versionNumber;
    }

    public int kept() {
        return keptCount;
    }

    private static boolean isAccount(int account) {
        return account >= 0 && account < ACCOUNTS;
    }

    /** The slot of the state n versions ago, for n of 0 .. keptCount. */
    private int slotOf(int n) {
        return (presentSlot + VERSIONS - n) % VERSIONS;
    }

    private void addVersion() {
        presentSlot = (presentSlot + 1) % VERSIONS;
        for (int i = 0; i < STATE; i++) {
            versions[presentSlot * STATE + i] = state[i];
        }
        versionNumber++;
        if (keptCount < MOST_KEPT) {
            keptCount++;
        }
    }

    /** A call that did not end as OK comes here too: undoing it has made the refund 0. */
    private int lessRefund(int spent) {
        int most = spent / 4;
        return refund < most ? spent - refund : spent - most;
    }

    /** The room is found by subtraction, because balance plus amount could wrap. */
    private boolean isDenied(int caller, int account, int amount) {
        if (amount < 0 || depth >= MOST_UNDER_WAY) {
            return true;
        }
        if (caller != OUTSIDE && amount > state[caller * ROW + BALANCE]) {
            return true;
        }
        return amount > MOST_MONEY - state[account * ROW + BALANCE];
    }

    /** Takes the waiting messages until none is left: the energy that is left then. */
    private int runMessages(int energy) {
        int left = energy;
        for (int taken = 0; taken < MOST_STEPS && waiting > 0; taken++) {
            int account = messages[0];
            int amount = messages[1];
            int argument = messages[2];
            int sender = messages[3];
            dropFrontMessage();
            if (!isDenied(sender, account, amount)) {
                left = runCall(sender, account, amount, argument, left);
            }
        }
        return left;
    }

    private void dropFrontMessage() {
        waiting--;
        for (int i = MESSAGE_PARTS; i < ALL_MESSAGES; i++) {
            messages[i - MESSAGE_PARTS] = messages[i];
        }
    }

    /** Runs a call that is not denied, and all that it calls: the energy that it leaves. */
    private int runCall(int caller, int account, int amount, int argument, int energy) {
        open(caller, account, amount, argument, energy);
        for (int steps = 0; steps < MOST_STEPS && depth > 0; steps++) {
            step();
        }
        return energyLeft[0];
    }

    private void open(int caller, int account, int amount, int argument, int energy) {
        int top = depth;
        for (int i = 0; i < STATE; i++) {
            savedState[top * STATE + i] = state[i];
        }
        savedEvents[top] = eventCount;
        savedWaiting[top] = waiting;
        savedWarm[top] = warm;
        savedRefund[top] = refund;
        if (caller != OUTSIDE) {
            state[caller * ROW + BALANCE] -= amount;
        }
        state[account * ROW + BALANCE] += amount;
        ownAccount[top] = account;
        callerOf[top] = caller;
        amountOf[top] = amount;
        argumentOf[top] = argument;
        energyGiven[top] = energy;
        energyLeft[top] = energy;
        position[top] = 0;
        stackHeight[top] = 0;
        depth = top + 1;
        latestCalls++;
    }

    private void endCall(int how, int result) {
        int top = depth - 1;
        if (how == OUT || how == FAULT) {
            energyLeft[top] = 0;
        }
        if (how != OK) {
            undo(top);
        }
        depth = top;
        endedAs = how;
        endedResult = result;
        if (top > 0) {
            energyLeft[top - 1] -= energyGiven[top] - energyLeft[top];
            push(result);
            push(how == OK ? 1 : 0);
        }
    }

    /** Within a call events and messages are only added behind the others: their old counts are enough. */
    private void undo(int top) {
        for (int i = 0; i < STATE; i++) {
            state[i] = savedState[top * STATE + i];
        }
        eventCount = savedEvents[top];
        waiting = savedWaiting[top];
        warm = savedWarm[top];
        refund = savedRefund[top];
    }

    /** One instruction of the innermost call, or its end if its account has no program. */
    private void step() {
        int top = depth - 1;
        int account = ownAccount[top];
        if (programLength[account] == 0) {
            endCall(OK, 0);
            return;
        }
        int at = account * PROGRAM + position[top];
        int op = programOp[at];
        int b = programNumber[at];
        int cost = costOf(op, account * ROW + (b & CELL_MASK));
        if (energyLeft[top] < cost) {
            endCall(OUT, 0);
            return;
        }
        energyLeft[top] -= cost;
        int height = stackHeight[top] - takenBy(op);
        int heightBehind = height + addedBy(op);
        if (height < 0 || heightBehind > STACK) {
            endCall(FAULT, 0);
            return;
        }
        int first = top * STACK + height;
        int next = nextPosition(op, b, first);
        if (next < 0 || next >= programLength[account]) {
            endCall(FAULT, 0);
            return;
        }
        position[top] = next;
        stackHeight[top] = height;
        if (op == RETURN) {
            endCall(OK, stack[first]);
        } else if (op == REVERT) {
            endCall(REVERTED, stack[first]);
        } else if (op == CALL) {
            callOther(b, first);
        } else {
            execute(op, b, first);
        }
    }

    /** The place is that of the cell which a LOAD or STORE means. */
    private int costOf(int op, int place) {
        boolean isWarm = (warm >> place & 1) == 1;
        switch (op) {
            case HAS:
                return 3;
            case LOAD:
                return isWarm ? 2 : 5;
            case STORE:
                return isWarm ? 3 : 8;
            case CALL:
                return 8;
            case LOG:
                return 4;
            case SEND:
                return 5;
            default:
                return 1;
        }
    }

    private static int takenBy(int op) {
        switch (op) {
            case HAS:
            case STORE:
            case DUP:
            case DROP:
            case JZERO:
            case RETURN:
            case REVERT:
            case LOG:
                return 1;
            case ADD:
            case SUB:
            case MUL:
            case LESS:
            case SAME:
            case SWAP:
                return 2;
            case CALL:
            case SEND:
                return 3;
            default:
                return 0;
        }
    }

    private static int addedBy(int op) {
        switch (op) {
            case STORE:
            case DROP:
            case JUMP:
            case JZERO:
            case RETURN:
            case REVERT:
            case LOG:
            case SEND:
                return 0;
            case DUP:
            case SWAP:
            case CALL:
                return 2;
            default:
                return 1;
        }
    }

    /** RETURN and REVERT stay where they are: nothing has to follow them. */
    private int nextPosition(int op, int b, int first) {
        int here = position[depth - 1];
        if (op == RETURN || op == REVERT) {
            return here;
        }
        if (op == JUMP || (op == JZERO && stack[first] == 0)) {
            return b;
        }
        return here + 1;
    }

    private void push(int x) {
        int top = depth - 1;
        int height = stackHeight[top];
        stack[top * STACK + height] = x;
        stackHeight[top] = height + 1;
    }

    private void callOther(int b, int first) {
        int top = depth - 1;
        int caller = ownAccount[top];
        int account = stack[first];
        int amount = stack[first + 1];
        int argument = stack[first + 2];
        if (!isAccount(account) || isDenied(caller, account, amount)) {
            push(0);
            push(0);
            return;
        }
        int left = energyLeft[top];
        int energy = b > 0 && left > b ? b : left;
        open(caller, account, amount, argument, energy);
    }

    /** What the instruction takes stands at first and behind it, no longer a part of the stack. */
    private void execute(int op, int b, int first) {
        switch (op) {
            case STORE:
                store(b, stack[first]);
                break;
            case LOG:
                addEvent(b, stack[first]);
                break;
            case SEND:
                send(first);
                break;
            case DROP:
            case JUMP:
            case JZERO:
                break;
            case DUP: {
                int x = stack[first];
                push(x);
                push(x);
                break;
            }
            case SWAP: {
                int x = stack[first];
                int y = stack[first + 1];
                push(y);
                push(x);
                break;
            }
            case ADD:
            case SUB:
            case MUL:
            case LESS:
            case SAME: {
                int combined = combine(op, stack[first], stack[first + 1]);
                push(combined);
                break;
            }
            default: {
                int value = lookUp(op, b, first);
                push(value);
                break;
            }
        }
    }

    private static int combine(int op, int x, int y) {
        switch (op) {
            case ADD:
                return x + y;
            case SUB:
                return x - y;
            case MUL:
                return x * y;
            case LESS:
                return x < y ? 1 : 0;
            default:
                return x == y ? 1 : 0;
        }
    }

    /** The one int that an instruction adds which only looks something up; six calls deep, so it calls nothing more. */
    private int lookUp(int op, int b, int first) {
        int top = depth - 1;
        switch (op) {
            case ARG:
                return argumentOf[top];
            case CALLER:
                return callerOf[top];
            case SELF:
                return ownAccount[top];
            case VALUE:
                return amountOf[top];
            case HAS:
                int asked = stack[first];
                return asked >= 0 && asked < ACCOUNTS ? state[asked * ROW + BALANCE] : 0;
            case LOAD:
                int place = ownAccount[top] * ROW + (b & CELL_MASK);
                warm |= 1 << place;
                return state[place];
            case LEFT:
                return energyLeft[top];
            default:
                return b;
        }
    }

    private void store(int b, int x) {
        int place = ownAccount[depth - 1] * ROW + (b & CELL_MASK);
        if (x == 0 && state[place] != 0) {
            refund += REFUND_OF_STORE;
        }
        warm |= 1 << place;
        state[place] = x;
    }

    private void addEvent(int b, int x) {
        if (eventCount >= MOST_EVENTS) {
            return;
        }
        int start = eventCount * EVENT_PARTS;
        eventList[start] = ownAccount[depth - 1];
        eventList[start + 1] = b;
        eventList[start + 2] = x;
        eventCount++;
    }

    /** Six calls deep like lookUp: it looks at the account's number itself. */
    private void send(int first) {
        int account = stack[first];
        if (waiting >= MOST_WAITING || account < 0 || account >= ACCOUNTS) {
            return;
        }
        int start = waiting * MESSAGE_PARTS;
        messages[start] = account;
        messages[start + 1] = stack[first + 1];
        messages[start + 2] = stack[first + 2];
        messages[start + 3] = ownAccount[depth - 1];
        waiting++;
    }
}
