import java.math.BigInteger;

/** Each sentence of the promises that names a boundary has a test of its own: at the boundary and on both sides of it. */
public final class PromiseEdgesTest extends Checks {
    /** The argument goes into cell 0 and into an event, and is the result: 1 + 8 + 1 + 4 + 2. */
    private static final int[] KEEPER = {ARG, 0, STORE, 0, ARG, 0, LOG, 3, ARG, 0, RETURN, 0};
    private static final int KEEPER_COST = 16;

    /** Has been used: eight versions, money, cells, an event, and one instruction pending. */
    private static ContractEngine used(int limit) {
        ContractEngine x = new ContractEngine(limit);
        program(x, 0, KEEPER);
        program(x, 5, PUSH, 9, REVERT, 0);
        for (int i = 1; i <= 8; i++) {
            due("call", x.call(0, i, 10 * i, limit), OK);
        }
        due("put", x.put(PUSH, 4), 1);
        return x;
    }

    // Promise 1

    private static void limitIsClamped() {
        int[][] limits = {{MIN, 20}, {-400, 20}, {-1, 20}, {0, 20}, {1, 20}, {18, 20}, {19, 20}, {20, 20}, {21, 21}, {22, 22},
            {210, 210}, {398, 398}, {399, 399}, {400, 400}, {401, 400}, {402, 400}, {MAX - 1, 400}, {MAX, 400}};
        for (int[] pair : limits) {
            String which = "limit " + pair[0] + ", energy ";
            ContractEngine x = new ContractEngine(pair[0]);
            program(x, 0, LEFT, 0, RETURN, 0);
            for (int energy = pair[1] - 1; energy <= pair[1]; energy++) {
                due(which + energy, x.call(0, 0, 0, energy), OK);
                due(which + energy + " is given whole", x.result(), energy - 1);
            }
            due(which + (pair[1] + 1), x.call(0, 0, 0, pair[1] + 1), REFUSED);
            due(which + MAX, x.call(0, 0, 0, MAX), REFUSED);
        }
    }

    private static void nothingAtFirst() {
        for (int limit : new int[] {MIN, 20, 400, MAX}) {
            ContractEngine x = new ContractEngine(limit);
            same("a new object", state(x), " [0: 0 0 0 0] [0: 0 0 0 0] [0: 0 0 0 0] [0: 0 0 0 0] [0: 0 0 0 0] [0: 0 0 0 0]");
            due("events()", x.events(), 0);
            for (int which = -1; which <= 3; which++) {
                due("event(0, " + which + ")", x.event(0, which), 0);
            }
            due("deploy(0): nothing is pending", x.deploy(0), REFUSED);
            due("put", x.put(PUSH, 1), 1);
            for (int account = 0; account < 6; account++) {
                due("no program: energy 0 is enough", x.call(account, 0, 7, 0), OK);
                due("no program: result()", x.result(), 0);
            }
        }
    }

    // Promise 2

    private static void putTellsHowMany() {
        ContractEngine x = new ContractEngine(400);
        for (int round = 0; round < 3; round++) {
            for (int i = 1; i <= 24; i++) {
                due("put number " + i, x.put(JUMP, i), i);
            }
            due("deploy", x.deploy(round), 24);
        }
    }

    private static void putOfNoOp() {
        for (int op : new int[] {MIN, -24, -2, -1, 24, 25, MAX}) {
            ContractEngine x = new ContractEngine(400);
            due("put(" + op + ", 5), nothing pending", x.put(op, 5), REFUSED);
            due("deploy(0): still nothing pending", x.deploy(0), REFUSED);
            due("put", x.put(PUSH, 7), 1);
            due("put(" + op + ", 5), one pending", x.put(op, 5), REFUSED);
            due("put", x.put(RETURN, 0), 2);
            due("put(" + op + ", 5), two pending", x.put(op, 5), REFUSED);
            due("deploy", x.deploy(0), 2);
            due("call", x.call(0, 0, 0, 2), OK);
            due("result()", x.result(), 7);
        }
        for (int op : new int[] {0, 1, 22, 23}) {
            ContractEngine x = new ContractEngine(400);
            due("put(" + op + ", 5)", x.put(op, 5), 1);
            due("deploy", x.deploy(0), 1);
        }
    }

    private static void putWithTwentyFour() {
        ContractEngine x = new ContractEngine(400);
        for (int i = 1; i <= 22; i++) {
            due("put number " + i, x.put(JUMP, i), i);
        }
        due("the 23rd", x.put(PUSH, 77), 23);
        due("the 24th", x.put(RETURN, 0), 24);
        for (int op : new int[] {0, 20, 23, 24, -1}) {
            due("the 25th: put(" + op + ", 1)", x.put(op, 1), REFUSED);
        }
        due("deploy", x.deploy(3), 24);
        due("call", x.call(3, 0, 0, 24), OK);
        due("result()", x.result(), 77);
        due("used()", x.used(), 24);
        due("another account has got none of it", x.call(4, 0, 0, 0), OK);
        due("put, nothing pending any more", x.put(PUSH, 1), 1);
    }

    private static void putOfAnyNumber() {
        for (int b : new int[] {MIN, MIN + 1, -1, 0, 1, 23, 24, MAX - 1, MAX}) {
            ContractEngine x = new ContractEngine(400);
            program(x, 0, PUSH, b, RETURN, b);
            due("call", x.call(0, 0, 0, 2), OK);
            due("PUSH " + b, x.result(), b);
        }
    }

    // Promise 3

    private static void pendingNoMore() {
        for (int account : new int[] {MIN, -1, 0, 5, 6, MAX}) {
            boolean there = account == 0 || account == 5;
            ContractEngine x = new ContractEngine(400);
            due("put", x.put(PUSH, 1), 1);
            due("put", x.put(RETURN, 1), 2);
            due("deploy(" + account + ")", x.deploy(account), there ? 2 : REFUSED);
            due("nothing pending behind deploy(" + account + ")", x.deploy(1), REFUSED);
            due("put behind deploy(" + account + ")", x.put(PUSH, 8), 1);
            due("put", x.put(RETURN, 8), 2);
            due("deploy(1)", x.deploy(1), 2);
            due("call", x.call(1, 0, 0, 2), OK);
            due("result()", x.result(), 8);
        }
    }

    private static void deployToNoAccount() {
        for (int account : NO_ACCOUNTS) {
            ContractEngine x = used(400);
            String before = everything(x);
            due("deploy(" + account + ")", x.deploy(account), REFUSED);
            same("deploy(" + account + ") changes no answer", everything(x), before);
            due("the program of 0 stays", x.call(0, 0, 3, 400), OK);
            due("the program of 5 stays", x.call(5, 0, 3, 400), REVERTED);
            due("still none for 1", x.call(1, 0, 3, 0), OK);
        }
        ContractEngine x = new ContractEngine(400);
        for (int account = 0; account <= 5; account++) {
            program(x, account, PUSH, 50 + account, RETURN, 0);
        }
        for (int account = 0; account <= 5; account++) {
            due("call(" + account + ")", x.call(account, 0, 0, 2), OK);
            due("result()", x.result(), 50 + account);
        }
    }

    private static void deployOfNothing() {
        ContractEngine x = new ContractEngine(400);
        for (int account = -1; account <= 6; account++) {
            due("deploy(" + account + ") at first", x.deploy(account), REFUSED);
        }
        due("without a program still", x.call(2, 0, 0, 0), OK);
        program(x, 2, PUSH, 6, RETURN, 0);
        due("deploy(2) again", x.deploy(2), REFUSED);
        due("the program stays", x.call(2, 0, 0, 2), OK);
        due("result()", x.result(), 6);
        due("a program of one instruction", x.put(JUMP, 0), 1);
        due("deploy(2)", x.deploy(2), 1);
        due("its only instruction is run for ever", x.call(2, 0, 0, 400), OUT);
    }

    private static void balanceAndCellsStay() {
        ContractEngine x = new ContractEngine(400);
        program(x, 1, PUSH, MIN, STORE, 0, PUSH, -1, STORE, 1, PUSH, 1, STORE, 2, PUSH, MAX, STORE, 3, PUSH, 5, LOG, 6, PUSH, 5, RETURN, 0);
        due("call", x.call(1, MOST_MONEY, 0, 400), OK);
        String before = everything(x);
        program(x, 1, JUMP, 0);
        same("a shorter program", everything(x), before);
        program(x, 1, join(idle(0, 22), code(PUSH, 1, RETURN, 0)));
        same("a longer program", everything(x), before);
        due("put", x.put(PUSH, 1), 1);
        due("deploy(6)", x.deploy(6), REFUSED);
        same("a refused program", everything(x), before);
    }

    // Promise 4

    private static void callOfNoAccount() {
        for (int account : new int[] {MIN, -2, -1, 6, 7, MAX}) {
            ContractEngine x = used(400);
            String before = everything(x);
            due("call(" + account + ")", x.call(account, 1, 1, 400), REFUSED);
            due("call(" + account + ") with a bad amount", x.call(account, -1, 1, 400), REFUSED);
            same("nothing changes", everything(x), before);
            due("what is pending stays", x.put(RETURN, 0), 2);
        }
        ContractEngine x = used(400);
        due("call(0)", x.call(0, 0, 1, 400), OK);
        due("call(1)", x.call(1, 0, 1, 0), OK);
        due("call(5)", x.call(5, 0, 1, 400), REVERTED);
    }

    private static void callWithNoSuchEnergy() {
        for (int limit : new int[] {20, 21, 150, 400}) {
            ContractEngine x = used(limit);
            String before = everything(x);
            for (int energy : new int[] {MIN, -2, -1, limit + 1, limit + 2, MAX}) {
                due("energy " + energy, x.call(0, 1, 1, energy), REFUSED);
                due("energy " + energy + " with a bad amount", x.call(0, -1, 1, energy), REFUSED);
                due("energy " + energy + ", no program", x.call(1, 1, 1, energy), REFUSED);
            }
            same("nothing changes", everything(x), before);
            due("what is pending stays", x.put(RETURN, 0), 2);
            due("energy 0", x.call(0, 1, 1, 0), OUT);
            due("energy 1", x.call(0, 1, 1, 1), OUT);
            due("energy " + (limit - 1), x.call(0, 1, 1, limit - 1), OK);
            due("energy " + limit, x.call(0, 1, 1, limit), OK);
        }
    }

    private static void eventsBeginAnew() {
        int[][] calls = {{0, 1, 0, 400}, {5, 0, 0, 400}, {0, 0, 0, KEEPER_COST - 1}, {4, 0, 0, 400}, {1, 0, 0, 0}};
        int[] ends = {OK, REVERTED, OUT, FAULT, OK};
        String[] left = {" (0 3 0)", "", "", "", ""};
        for (int i = 0; i < calls.length; i++) {
            ContractEngine x = used(400);
            due("put", x.put(DROP, 0), 2);
            due("deploy", x.deploy(4), 2);
            same("events before", events(x), " (0 3 80)");
            due("call", x.call(calls[i][0], calls[i][1], calls[i][2], calls[i][3]), ends[i]);
            same("events behind the end " + ends[i], events(x), left[i]);
        }
        ContractEngine x = used(400);
        due("REFUSED", x.call(6, 0, 0, 0), REFUSED);
        same("events behind REFUSED", events(x), " (0 3 80)");
        due("DENIED", x.call(0, -1, 0, 400), DENIED);
        same("events behind DENIED", events(x), " (0 3 80)");
        due("OK", x.call(0, 0, 2, 400), OK);
        same("events behind OK", events(x), " (0 3 2)");
    }

    // Promise 5

    private static void resultOfTheLatest() {
        ContractEngine x = new ContractEngine(400);
        due("result(), no call yet", x.result(), 0);
        due("REFUSED", x.call(6, 0, 0, 0), REFUSED);
        due("result(), only a refused one", x.result(), 0);
        due("DENIED", x.call(0, -1, 0, 0), DENIED);
        due("result(), only a denied one", x.result(), 0);
        program(x, 0, ARG, 0, RETURN, 0);
        program(x, 1, ARG, 0, REVERT, 0);
        program(x, 2, DROP, 0);
        program(x, 3, join(sendTo(0, 0, 44), sendTo(1, 0, 45), code(PUSH, 5, RETURN, 0)));
        int[][] calls = {{6, 0, 3, 9, REFUSED, 77}, {0, 0, 3, 401, REFUSED, 77}, {0, 0, 3, -1, REFUSED, 77}, {0, -1, 3, 9, DENIED, 0},
            {0, MOST_MONEY + 1, 3, 9, DENIED, 0}, {0, 0, 3, 2, OK, 3}, {0, 0, MIN, 2, OK, MIN}, {1, 0, MAX, 2, REVERTED, MAX},
            {0, 0, 3, 1, OUT, 0}, {2, 0, 3, 1, FAULT, 0}, {4, 0, 3, 9, OK, 0}, {3, 0, 3, 100, OK, 5}};
        for (int[] c : calls) {
            due("call", x.call(0, 0, 77, 2), OK);
            due("result()", x.result(), 77);
            String what = "call(" + c[0] + ", " + c[1] + ", " + c[2] + ", " + c[3] + ")";
            due(what, x.call(c[0], c[1], c[2], c[3]), c[4]);
            due("result() behind " + what, x.result(), c[5]);
        }
    }

    // Promise 6

    /** Cells 0 .. 3 of account 0 become 1; then a program that sets some of them to 0 and spends just so much. */
    private static void spends(int cells, int spent) {
        ContractEngine x = new ContractEngine(400);
        program(x, 0, PUSH, 1, STORE, 0, PUSH, 1, STORE, 1, PUSH, 1, STORE, 2, PUSH, 1, STORE, 3, PUSH, 1, RETURN, 0);
        due("call", x.call(0, 0, 0, 400), OK);
        due("used(), no refund", x.used(), 38);
        int[] clearing = {};
        for (int k = 0; k < cells; k++) {
            clearing = join(clearing, code(PUSH, 0, STORE, k));
        }
        int idle = spent - 9 * cells - 2;
        program(x, 0, join(clearing, idle(2 * cells, idle), code(PUSH, 6, RETURN, 0)));
        due("call", x.call(0, 0, 0, spent), OK);
        int refund = 4 * cells;
        int quarter = spent / 4;
        due("used() of " + spent + " with a refund of " + refund, x.used(), spent - (refund > quarter ? quarter : refund));
        due("the refund is no energy for the run itself", x.call(0, 0, 0, spent - 1), OUT);
        due("used() of OUT is whole", x.used(), spent - 1);
    }

    private static void notMoreThanAQuarter() {
        for (int spent : new int[] {11, 12, 13, 14, 15, 16, 17, 19, 20, 21, 24, 31}) {
            spends(1, spent);
        }
        for (int spent : new int[] {20, 23, 24, 27, 28, 31, 32, 33, 36, 38}) {
            spends(2, spent);
        }
        for (int spent : new int[] {29, 31, 32, 35, 36, 43}) {
            spends(3, spent);
        }
        for (int spent : new int[] {2, 3, 4, 5, 8, 22}) {
            spends(0, spent);
        }
    }

    private static void noRefundIfNotOk() {
        int[][] endings = {code(PUSH, 6, RETURN, 0), code(PUSH, 6, REVERT, 0), code(JUMP, 14), code(DROP, 0)};
        int[] due = {24 - 4, 24, 60, 60};
        for (int end = OK; end <= FAULT; end++) {
            ContractEngine x = new ContractEngine(400);
            program(x, 0, KEEPER);
            due("call", x.call(0, 0, 1, 400), OK);
            int[] clearing = join(code(PUSH, 0, STORE, 0), idle(2, 13 - (end == OUT ? 1 : 0)));
            program(x, 0, join(clearing, endings[end]));
            due("call", x.call(0, 0, 0, 60), end);
            due("used()", x.used(), due[end]);
            due("cell(0, 0)", x.cell(0, 0), end == OK ? 0 : 1);
        }
    }

    private static void usedByMessagesToo() {
        // The first call uses 8 + 2; the message's call what its program says.
        int[][] others = {code(PUSH, 1, RETURN, 0), code(PUSH, 1, REVERT, 0), code(JUMP, 0), code(DROP, 0)};
        int[] due = {12, 12, 50, 50};
        for (int end = OK; end <= FAULT; end++) {
            ContractEngine x = new ContractEngine(400);
            program(x, 0, join(sendTo(1, 0, 0), code(PUSH, 1, RETURN, 0)));
            program(x, 1, others[end]);
            due("call", x.call(0, 0, 0, 50), OK);
            due("used() with a message that ends as " + end, x.used(), due[end]);
        }
        // Its refund counts as well, and the quarter is that of all: 10 + 11 are 21, of which 5, so the 4 are whole.
        ContractEngine x = new ContractEngine(400);
        program(x, 1, KEEPER);
        due("call", x.call(1, 0, 1, 400), OK);
        program(x, 1, PUSH, 0, STORE, 0, PUSH, 1, RETURN, 0);
        program(x, 0, join(sendTo(1, 0, 0), code(PUSH, 1, RETURN, 0)));
        due("call", x.call(0, 0, 0, 50), OK);
        due("used() with a message's refund", x.used(), 21 - 4);
    }

    private static void usedIsZeroLikewise() {
        ContractEngine x = new ContractEngine(400);
        due("used(), no call yet", x.used(), 0);
        due("calls(), no call yet", x.calls(), 0);
        due("REFUSED", x.call(0, 0, 0, 401), REFUSED);
        due("used(), only a refused one", x.used(), 0);
        due("calls(), only a refused one", x.calls(), 0);
        program(x, 0, KEEPER);
        due("DENIED", x.call(0, -1, 0, 400), DENIED);
        due("used(), only a denied one", x.used(), 0);
        due("calls(), only a denied one", x.calls(), 0);
        for (int energy : new int[] {-1, 401}) {
            due("OK", x.call(0, 0, 0, KEEPER_COST), OK);
            due("REFUSED", x.call(0, 0, 0, energy), REFUSED);
            due("used() behind REFUSED", x.used(), KEEPER_COST);
            due("calls() behind REFUSED", x.calls(), 1);
        }
        for (int amount : new int[] {-1, MOST_MONEY + 1}) {
            due("OK", x.call(0, 0, 0, KEEPER_COST), OK);
            due("DENIED", x.call(0, amount, 0, 400), DENIED);
            due("used() behind DENIED", x.used(), 0);
            due("calls() behind DENIED", x.calls(), 0);
        }
        for (int energy : new int[] {0, 1, KEEPER_COST - 1}) {
            due("OUT", x.call(0, 0, 0, energy), OUT);
            due("used() of OUT", x.used(), energy);
            due("calls() of OUT", x.calls(), 1);
        }
    }

    // Promise 7

    private static void callsCountsAllButDenied() {
        // Account 1 as its own argument says: OK, REVERTED, or FAULT at the end of the program.
        int[] other = {ARG, 0, JZERO, 7, ARG, 0, PUSH, 1, SAME, 0, JZERO, 9, REVERT, 0, PUSH, 0, RETURN, 0, DROP, 0};
        int[][] calls = {{1, 0, 0, 2}, {1, 0, 1, 2}, {1, 0, 2, 2}, {1, 10, 0, 2}, {1, 11, 0, 1}, {1, -1, 0, 1}, {2, 0, 0, 2}, {2, 11, 0, 1},
            {6, 0, 0, 1}, {-1, 0, 0, 1}};
        for (int[] c : calls) {
            for (int how = 0; how < 2; how++) {
                ContractEngine x = new ContractEngine(400);
                program(x, 1, other);
                int[] toOther = how == 0 ? callOf(c[0], c[1], c[2], 30) : sendTo(c[0], c[1], c[2]);
                program(x, 0, join(toOther, code(PUSH, 0, RETURN, 0)));
                due("call", x.call(0, 10, 0, 100), OK);
                due((how == 0 ? "CALL " : "SEND ") + c[0] + ", " + c[1] + ", " + c[2] + ": calls()", x.calls(), c[3]);
            }
        }
    }

    private static void callsCountsUndoneOnes() {
        // Account 0 calls 1, which calls 2 twice; then one of them is undone, with all that it called.
        for (int undone = -1; undone <= 2; undone++) {
            ContractEngine x = new ContractEngine(400);
            for (int account = 0; account <= 2; account++) {
                int[] ending = code(PUSH, 0, undone == account ? REVERT : RETURN, 0);
                int[] toNext = callAndDrop(account + 1, 0, 0, 0);
                program(x, account, account == 2 ? ending : account == 1 ? join(toNext, toNext, ending) : join(toNext, ending));
            }
            due("call", x.call(0, 0, 0, 100), undone == 0 ? REVERTED : OK);
            due("calls(), account " + undone + " is undone", x.calls(), 4);
        }
    }

    // Promises 8 and 9

    /** An account that leaves some events, at most 11, and one that calls accounts 1 and 2. */
    private static ContractEngine loggers(int first, int second) {
        ContractEngine x = new ContractEngine(400);
        int[] many = {first, second};
        for (int i = 0; i < 2; i++) {
            int[] log = {};
            for (int k = 0; k < many[i]; k++) {
                log = join(log, code(PUSH, k, LOG, 100 * (i + 1) + k));
            }
            program(x, i + 1, join(log, code(PUSH, 0, RETURN, 0)));
        }
        return x;
    }

    private static void twentyEvents() {
        int[][] pairs = {{0, 0}, {0, 1}, {9, 9}, {10, 9}, {10, 10}, {11, 9}, {10, 11}, {11, 11}};
        for (int[] pair : pairs) {
            ContractEngine x = loggers(pair[0], pair[1]);
            program(x, 0, join(callAndDrop(1, 0, 0, 0), callAndDrop(2, 0, 0, 0), code(PUSH, 0, RETURN, 0)));
            int sum = pair[0] + pair[1];
            int kept = sum > 20 ? 20 : sum;
            due("call", x.call(0, 0, 0, 400), OK);
            due(sum + " events: events()", x.events(), kept);
            due(sum + " events are paid: used()", x.used(), 2 * 13 + 5 * sum + 2 * 2 + 2);
            for (int k = 0; k < kept; k++) {
                int account = k < pair[0] ? 1 : 2;
                int number = k < pair[0] ? k : k - pair[0];
                due("event(" + k + ", 0)", x.event(k, 0), account);
                due("event(" + k + ", 1)", x.event(k, 1), 100 * account + number);
                due("event(" + k + ", 2)", x.event(k, 2), number);
            }
            due("event(" + kept + ", 0)", x.event(kept, 0), 0);
            due("event(" + kept + ", 1)", x.event(kept, 1), 0);
            due("just enough energy", x.call(0, 0, 0, 2 * 13 + 5 * sum + 2 * 2 + 2), OK);
            due("one too few, although events are lost", x.call(0, 0, 0, 2 * 13 + 5 * sum + 2 * 2 + 1), OUT);
            due("events() of OUT", x.events(), 0);
        }
    }

    private static void twentyEventsWithMessages() {
        for (int second = 9; second <= 11; second++) {
            ContractEngine x = loggers(10, second);
            program(x, 0, join(sendTo(1, 0, 0), sendTo(2, 0, 0), code(PUSH, 0, RETURN, 0)));
            due("call", x.call(0, 0, 0, 400), OK);
            due("events() of messages", x.events(), second > 10 ? 20 : 10 + second);
            due("event(19, 1)", x.event(19, 1), second >= 10 ? 209 : 0);
            due("used()", x.used(), 2 * 8 + 2 + 5 * (10 + second) + 2 * 2);
        }
    }

    private static void twentyEventsAndUndoing() {
        // 11, then more than there is room for, all undone; then some of account 0's own.
        for (int own = 8; own <= 10; own++) {
            ContractEngine x = loggers(11, 10);
            int[] log = {};
            for (int k = 0; k < 10; k++) {
                log = join(log, code(PUSH, k, LOG, 200 + k));
            }
            program(x, 2, join(log, code(PUSH, 0, REVERT, 0)));
            int[] ownLog = {};
            for (int k = 0; k < own; k++) {
                ownLog = join(ownLog, code(DUP, 0, LOG, 300 + k));
            }
            program(x, 3, join(code(ARG, 0), ownLog, code(RETURN, 0)));
            program(x, 0, join(callAndDrop(1, 0, 0, 0), callAndDrop(2, 0, 0, 0), callOf(3, 0, 5, 0), code(RETURN, 0)));
            due("call", x.call(0, 0, 0, 400), OK);
            due("events()", x.events(), own > 9 ? 20 : 11 + own);
            due("event(11, 1)", x.event(11, 1), 300);
            due("event(19, 1)", x.event(19, 1), own >= 9 ? 308 : 0);
        }
    }

    private static void noSuchEvent() {
        ContractEngine x = loggers(3, 1);
        due("call", x.call(1, 0, 0, 400), OK);
        for (int which = 0; which <= 2; which++) {
            for (int k : new int[] {MIN, -1, 3, 4, 19, 20, 21, MAX}) {
                due("event(" + k + ", " + which + ")", x.event(k, which), 0);
            }
        }
        for (int k = 0; k <= 2; k++) {
            due("event(" + k + ", 0)", x.event(k, 0), 1);
            due("event(" + k + ", 1)", x.event(k, 1), 100 + k);
            due("event(" + k + ", 2)", x.event(k, 2), k);
            for (int which : new int[] {MIN, -3, -2, -1, 3, 4, 5, MAX}) {
                due("event(" + k + ", " + which + ")", x.event(k, which), 0);
            }
        }
        due("a call with one event", x.call(2, 0, 0, 400), OK);
        due("event(0, 1)", x.event(0, 1), 200);
        for (int which = 0; which <= 2; which++) {
            due("event(1, " + which + "): that of the call before", x.event(1, which), 0);
        }
    }

    // Promises 10 and 11

    private static void noSuchAccount() {
        ContractEngine x = new ContractEngine(400);
        for (int account = 0; account < 6; account++) {
            program(x, account, ARG, 0, STORE, 0, ARG, 0, STORE, 1, ARG, 0, STORE, 2, ARG, 0, STORE, 3, PUSH, 0, RETURN, 0);
            due("call", x.call(account, account == 3 ? MOST_MONEY : 100 + account, account - 3, 400), OK);
        }
        for (int account = 0; account <= 5; account++) {
            due("balance(" + account + ")", x.balance(account), account == 3 ? MOST_MONEY : 100 + account);
            due("cell(" + account + ", 0)", x.cell(account, 0), account - 3);
            due("cell(" + account + ", 3)", x.cell(account, 3), account - 3);
        }
        for (int account : NO_ACCOUNTS) {
            due("balance(" + account + ")", x.balance(account), 0);
            for (int k = -1; k <= 5; k++) {
                due("cell(" + account + ", " + k + ")", x.cell(account, k), 0);
            }
        }
    }

    private static void noSuchCell() {
        ContractEngine x = new ContractEngine(400);
        for (int account = 0; account < 6; account++) {
            program(x, account, PUSH, 40, STORE, 0, PUSH, 41, STORE, 1, PUSH, 42, STORE, 2, PUSH, 43, STORE, 3, PUSH, 0, RETURN, 0);
            due("call", x.call(account, 7, 0, 400), OK);
        }
        for (int account = 0; account < 6; account++) {
            for (int k = 0; k <= 3; k++) {
                due("cell(" + account + ", " + k + ")", x.cell(account, k), 40 + k);
            }
            for (int k : new int[] {MIN, -2, -1, 4, 5, 6, MAX}) {
                due("cell(" + account + ", " + k + ")", x.cell(account, k), 0);
            }
        }
    }

    // Promises 12 and 13

    /** The digest as the document says it, over numbers that never wrap, cut to 64 bits in the end. */
    private static long digestOf(ContractEngine x) {
        BigInteger h = BigInteger.ONE;
        BigInteger by = BigInteger.valueOf(31);
        for (int account = 0; account < 6; account++) {
            h = h.multiply(by).add(BigInteger.valueOf(x.balance(account)));
            for (int k = 0; k < 4; k++) {
                h = h.multiply(by).add(BigInteger.valueOf(x.cell(account, k)));
            }
        }
        return h.longValue();
    }

    private static void digestWraps() {
        int[] values = {0, 1, -1, 30, 31, -31, MAX, MIN};
        for (int first : values) {
            for (int last : values) {
                ContractEngine x = new ContractEngine(400);
                program(x, 0, ARG, 0, STORE, 0, PUSH, 0, RETURN, 0);
                program(x, 5, ARG, 0, STORE, 3, PUSH, 0, RETURN, 0);
                due("call", x.call(0, first < 0 ? 0 : MOST_MONEY, first, 400), OK);
                due("call", x.call(5, last < 0 ? MOST_MONEY : 0, last, 400), OK);
                due("digest(0)", x.digest(0), digestOf(x));
            }
        }
        // Every place has its own weight, the balance of an account going before its cells.
        for (int place = 0; place < 30; place++) {
            ContractEngine x = new ContractEngine(400);
            int account = place / 5;
            int k = place % 5;
            if (k == 0) {
                due("call", x.call(account, 1, 0, 0), OK);
            } else {
                program(x, account, PUSH, 1, STORE, k - 1, PUSH, 0, RETURN, 0);
                due("call", x.call(account, 0, 0, 400), OK);
            }
            BigInteger by = BigInteger.valueOf(31);
            due("digest(0), 1 at place " + place, x.digest(0), by.pow(30).add(by.pow(29 - place)).longValue());
            due("digest(1), all 0", x.digest(1), by.pow(30).longValue());
        }
    }

    /** Account 2's cell 0 is 10 * v and its balance v at version v. */
    private static ContractEngine versions(int many) {
        ContractEngine x = new ContractEngine(400);
        program(x, 2, KEEPER);
        for (int v = 1; v <= many; v++) {
            due("call", x.call(2, 1, 10 * v, 400), OK);
        }
        return x;
    }

    private static long digestOfVersion(int v) {
        BigInteger by = BigInteger.valueOf(31);
        return by.pow(30).add(by.pow(19).multiply(BigInteger.valueOf(v))).add(by.pow(18).multiply(BigInteger.valueOf(10 * v))).longValue();
    }

    private static void digestOutsideKept() {
        for (int many = 0; many <= 15; many++) {
            ContractEngine x = versions(many);
            int kept = many > 6 ? 6 : many;
            for (int n = 0; n <= kept; n++) {
                due(many + " versions: digest(" + n + ")", x.digest(n), digestOfVersion(many - n));
            }
            for (int n : new int[] {MIN, -2, -1, kept + 1, kept + 2, 7, 8, 13, 14, MAX}) {
                due(many + " versions: digest(" + n + ")", x.digest(n), 0);
            }
        }
    }

    private static void pastOutsideKept() {
        for (int many = 0; many <= 15; many++) {
            ContractEngine x = versions(many);
            int kept = many > 6 ? 6 : many;
            for (int n = 0; n <= kept; n++) {
                due(many + " versions: past(" + n + ", 2, 0)", x.past(n, 2, 0), 10 * (many - n));
                due(many + " versions: past(" + n + ", 2, 4)", x.past(n, 2, 4), many - n);
            }
            for (int n : new int[] {MIN, -2, -1, kept + 1, kept + 2, 7, 8, 13, 14, MAX}) {
                due(many + " versions: past(" + n + ", 2, 0)", x.past(n, 2, 0), 0);
                due(many + " versions: past(" + n + ", 2, 4)", x.past(n, 2, 4), 0);
            }
        }
    }

    private static void pastOfNoSuch() {
        ContractEngine x = new ContractEngine(400);
        for (int account = 0; account < 6; account++) {
            program(x, account, PUSH, 40, STORE, 0, PUSH, 41, STORE, 1, PUSH, 42, STORE, 2, PUSH, 43, STORE, 3, PUSH, 0, RETURN, 0);
            due("call", x.call(account, 44, 0, 400), OK);
        }
        due("call", x.call(0, 1, 0, 400), OK);
        for (int n = 0; n <= 1; n++) {
            for (int account = 0; account <= 5; account++) {
                for (int k = 0; k <= 4; k++) {
                    due("past(" + n + ", " + account + ", " + k + ")", x.past(n, account, k), k == 4 && account == 0 ? 45 - n : 40 + k);
                }
                for (int k : new int[] {MIN, -1, 5, 6, MAX}) {
                    due("past(" + n + ", " + account + ", " + k + ")", x.past(n, account, k), 0);
                }
            }
            for (int account : NO_ACCOUNTS) {
                for (int k = -1; k <= 5; k++) {
                    due("past(" + n + ", " + account + ", " + k + ")", x.past(n, account, k), 0);
                }
            }
        }
    }

    // Promises 14, 15 and 16

    private static void backOutsideKept() {
        for (int many = 0; many <= 9; many++) {
            int kept = many > 6 ? 6 : many;
            for (int n : new int[] {MIN, -1, 0, kept + 1, kept + 2, 7, 8, MAX}) {
                ContractEngine x = versions(many);
                String before = everything(x);
                due(many + " versions: back(" + n + ")", x.back(n), REFUSED);
                same(many + " versions: nothing changes by back(" + n + ")", everything(x), before);
            }
        }
    }

    private static void backInsideKept() {
        for (int many = 1; many <= 15; many++) {
            int kept = many > 6 ? 6 : many;
            for (int n = 1; n <= kept; n++) {
                String what = many + " versions: back(" + n + ")";
                ContractEngine x = versions(many);
                due(what, x.back(n), many - n);
                due(what + ", version()", x.version(), many - n);
                due(what + ", kept()", x.kept(), kept - n);
                due(what + ", balance(2)", x.balance(2), many - n);
                due(what + ", cell(2, 0)", x.cell(2, 0), 10 * (many - n));
                for (int ago = 0; ago <= kept - n; ago++) {
                    due(what + ", digest(" + ago + ")", x.digest(ago), digestOfVersion(many - n - ago));
                }
                due(what + ", digest of one more", x.digest(kept - n + 1), 0);
                due(what + ", past of one more", x.past(kept - n + 1, 2, 4), 0);
                due(what + ", back one more than kept", x.back(kept - n + 1), REFUSED);
                due(what + ", back of the rest", x.back(kept - n), kept == n ? REFUSED : many - kept);
                due(what + ", kept() then", x.kept(), 0);
                due(what + ", version() then", x.version(), many - kept);
                due(what + ", balance(2) then", x.balance(2), many - kept);
            }
        }
    }

    private static void backOfEveryPlace() {
        ContractEngine x = new ContractEngine(400);
        for (int account = 0; account < 6; account++) {
            program(x, account, ARG, 0, STORE, 0, ARG, 0, PUSH, 1, ADD, 0, STORE, 1, ARG, 0, PUSH, 2, ADD, 0, STORE, 2, ARG, 0, PUSH, 3,
                ADD, 0, STORE, 3,
                PUSH, 0, RETURN, 0);
            due("call", x.call(account, 100 + account, 10 * account + 10, 400), OK);
        }
        String before = state(x);
        same("state", before, " [100: 10 11 12 13] [101: 20 21 22 23] [102: 30 31 32 33] [103: 40 41 42 43] [104: 50 51 52 53] [105: 60 61 62 63]");
        for (int account = 0; account < 6; account++) {
            due("call", x.call(account, 1000, -10 * account - 10, 400), OK);
        }
        due("back(6)", x.back(6), 6);
        same("back(6)", state(x), before);
    }

    private static void versionsSinceAreGone() {
        for (int n = 1; n <= 6; n++) {
            ContractEngine x = versions(8);
            due("back(" + n + ")", x.back(n), 8 - n);
            for (int more = 1; more <= 8; more++) {
                due("call", x.call(2, 100, -more, 400), OK);
                due("version()", x.version(), 8 - n + more);
                int kept = 6 - n + more > 6 ? 6 : 6 - n + more;
                due("kept()", x.kept(), kept);
                for (int ago = 0; ago <= 7; ago++) {
                    int since = more - ago;
                    int balance = ago > kept ? 0 : since > 0 ? 8 - n + 100 * since : 8 - n + since;
                    due("back " + n + ", then " + more + " more: past(" + ago + ", 2, 4)", x.past(ago, 2, 4), balance);
                }
            }
        }
    }

    private static void programsEventsAndAnswersStay() {
        for (int n = 1; n <= 6; n++) {
            ContractEngine x = used(400);
            due("back(" + n + ")", x.back(n), 8 - n);
            due("result()", x.result(), 80);
            due("used()", x.used(), KEEPER_COST);
            due("calls()", x.calls(), 1);
            same("events", events(x), " (0 3 80)");
            due("what is pending stays", x.put(RETURN, 0), 2);
            due("program of 0", x.call(0, 0, 4, 400), OK);
            due("result()", x.result(), 4);
            due("program of 5", x.call(5, 0, 0, 400), REVERTED);
        }
        // A program that was deployed since stays too.
        ContractEngine x = versions(3);
        program(x, 2, PUSH, 9, RETURN, 0);
        program(x, 4, PUSH, 8, RETURN, 0);
        due("back(3)", x.back(3), 0);
        due("call", x.call(2, 0, 0, 400), OK);
        due("result()", x.result(), 9);
        due("call", x.call(4, 0, 0, 400), OK);
        due("result()", x.result(), 8);
    }

    private static void neverMoreThanSix() {
        ContractEngine x = new ContractEngine(400);
        program(x, 1, PUSH, 9, REVERT, 0);
        program(x, 2, DROP, 0);
        due("version() at first", x.version(), 0);
        due("kept() at first", x.kept(), 0);
        for (int v = 1; v <= 30; v++) {
            due("REVERTED", x.call(1, 0, 0, 400), REVERTED);
            due("OUT", x.call(1, 0, 0, 1), OUT);
            due("FAULT", x.call(2, 0, 0, 400), FAULT);
            due("DENIED", x.call(0, -1, 0, 400), DENIED);
            due("REFUSED", x.call(0, 0, 0, 401), REFUSED);
            due("version(), no new one", x.version(), v - 1);
            due("kept(), no new one", x.kept(), v - 1 > 6 ? 6 : v - 1);
            due("OK", x.call(0, 0, 0, 0), OK);
            due("version()", x.version(), v);
            due("kept()", x.kept(), v > 6 ? 6 : v);
        }
    }

    /** As many calls as an object may be used for. */
    private static void fiveHundredAndTwelve() {
        ContractEngine x = new ContractEngine(400);
        for (int i = 1; i <= 509; i++) {
            due("call", x.call(0, 1, 0, 0), OK);
        }
        due("version()", x.version(), 509);
        due("past(6, 0, 4)", x.past(6, 0, 4), 503);
        due("back(6)", x.back(6), 503);
    }

    public static void main(String[] args) {
        about("1: 'limit: the greatest energy of a call from outside, clamped to 20 .. 400'", PromiseEdgesTest::limitIsClamped);
        about("1: 'No pending program, no events'; 'all 0, and none, at first'", PromiseEdgesTest::nothingAtFirst);
        about("2: 'how many it has'", PromiseEdgesTest::putTellsHowMany);
        about("2: 'REFUSED, nothing changes, if op is not 0 .. 23'", PromiseEdgesTest::putOfNoOp);
        about("2: 'REFUSED, nothing changes, if .. 24 are pending'", PromiseEdgesTest::putWithTwentyFour);
        about("2: 'put(int op, int b)' for any b", PromiseEdgesTest::putOfAnyNumber);
        about("3: 'which is pending no more, whatever the answer'", PromiseEdgesTest::pendingNoMore);
        about("3: 'REFUSED if there is no such account'", PromiseEdgesTest::deployToNoAccount);
        about("3: 'REFUSED if there is .. nothing pending'", PromiseEdgesTest::deployOfNothing);
        about("3: 'Balance and cells stay'", PromiseEdgesTest::balanceAndCellsStay);
        about("4: 'REFUSED, nothing changes, if there is no such account'", PromiseEdgesTest::callOfNoAccount);
        about("4: 'REFUSED, nothing changes, if .. energy is not 0 .. limit'", PromiseEdgesTest::callWithNoSuchEnergy);
        about("4: 'begins anew with every call from outside that is not REFUSED or DENIED'", PromiseEdgesTest::eventsBeginAnew);
        about("5: '0 if there was none, or it was DENIED'", PromiseEdgesTest::resultOfTheLatest);
        about("6: 'not more than a quarter (cut) of it'", PromiseEdgesTest::notMoreThanAQuarter);
        about("6: 'if it was OK'", PromiseEdgesTest::noRefundIfNotOk);
        about("6: 'The energy that it and its messages used'", PromiseEdgesTest::usedByMessagesToo);
        about("6 and 7: '0 likewise'", PromiseEdgesTest::usedIsZeroLikewise);
        about("7: 'itself and those of messages among them, DENIED ones not'", PromiseEdgesTest::callsCountsAllButDenied);
        about("7: 'also undone ones'", PromiseEdgesTest::callsCountsUndoneOnes);
        about("8: 'at most 20 are kept: later ones are not added, but still paid'", PromiseEdgesTest::twentyEvents);
        about("8: 'at most 20 are kept', with messages", PromiseEdgesTest::twentyEventsWithMessages);
        about("8: 'at most 20 are kept', with a call that is undone", PromiseEdgesTest::twentyEventsAndUndoing);
        about("9: '0 if there is none'", PromiseEdgesTest::noSuchEvent);
        about("10 and 11: '0 if there is none', accounts", PromiseEdgesTest::noSuchAccount);
        about("11: '0 if there is none', cells", PromiseEdgesTest::noSuchCell);
        about("12: 'as a long that wraps'", PromiseEdgesTest::digestWraps);
        about("12: '0 if n is not 0 .. KEPT'", PromiseEdgesTest::digestOutsideKept);
        about("13: '0 if .. n is not 0 .. KEPT'", PromiseEdgesTest::pastOutsideKept);
        about("13: '0 if there is no such'", PromiseEdgesTest::pastOfNoSuch);
        about("14: 'REFUSED if n is not 1 .. KEPT'", PromiseEdgesTest::backOutsideKept);
        about("14: 'become what they were n versions ago'; 'KEPT falls by n'", PromiseEdgesTest::backInsideKept);
        about("14: 'All balances and cells'", PromiseEdgesTest::backOfEveryPlace);
        about("14: 'the versions since are gone'", PromiseEdgesTest::versionsSinceAreGone);
        about("14: 'Programs, events and answers stay'", PromiseEdgesTest::programsEventsAndAnswersStay);
        about("15 and 16: 'Each call .. that ends as OK makes a new version'; 'never more than 6'", PromiseEdgesTest::neverMoreThanSix);
        about("'at most 512 calls'", PromiseEdgesTest::fiveHundredAndTwelve);
        end();
    }
}
