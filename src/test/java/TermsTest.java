/** What the document's terms say: instructions, costs, faults, denials, undoing, warm cells, refunds, messages. */
public final class TermsTest extends Checks {
    /** The answer of a new engine's account 4 to one program, called with amount 30, argument 9 and energy 100. */
    private static void answers(String what, int want, int... code) {
        ContractEngine x = new ContractEngine(400);
        program(x, 4, join(code, code(RETURN, 0)));
        due(what + ": call", x.call(4, 30, 9, 100), OK);
        due(what, x.result(), want);
    }

    private static void instructions() {
        answers("PUSH", -3, PUSH, -3);
        answers("ARG", 9, ARG, 5);
        answers("CALLER", -1, CALLER, 5);
        answers("SELF", 4, SELF, 5);
        answers("VALUE", 30, VALUE, 5);
        answers("HAS", 30, PUSH, 4, HAS, 0);
        answers("HAS of another", 0, PUSH, 3, HAS, 4);
        for (int none : new int[] {-1, 6, Integer.MIN_VALUE, Integer.MAX_VALUE}) {
            answers("HAS of none", 0, PUSH, none, HAS, 4);
        }
        answers("LOAD of 0", 0, LOAD, 1);
        answers("STORE and LOAD", 8, PUSH, 8, STORE, 1, LOAD, 5);
        answers("STORE -1 is cell 3", 8, PUSH, 8, STORE, -1, LOAD, 3);
        answers("STORE into one cell alone", 0, PUSH, 8, STORE, -1, LOAD, 2);
        answers("ADD", 12, PUSH, 5, PUSH, 7, ADD, 0);
        answers("ADD wraps", Integer.MIN_VALUE, PUSH, Integer.MAX_VALUE, PUSH, 1, ADD, 0);
        answers("SUB", -2, PUSH, 5, PUSH, 7, SUB, 0);
        answers("SUB wraps", Integer.MAX_VALUE, PUSH, Integer.MIN_VALUE, PUSH, 1, SUB, 0);
        answers("MUL", -35, PUSH, 5, PUSH, -7, MUL, 0);
        answers("MUL wraps", 0, PUSH, 65536, PUSH, 65536, MUL, 0);
        answers("LESS", 1, PUSH, 5, PUSH, 7, LESS, 0);
        answers("LESS of equals", 0, PUSH, 7, PUSH, 7, LESS, 0);
        answers("LESS, greater", 0, PUSH, 7, PUSH, 5, LESS, 0);
        answers("LESS, signed and without wrapping", 1, PUSH, Integer.MIN_VALUE, PUSH, Integer.MAX_VALUE, LESS, 0);
        answers("SAME", 1, PUSH, 7, PUSH, 7, SAME, 0);
        answers("SAME of others", 0, PUSH, 7, PUSH, 8, SAME, 0);
        answers("DUP", 14, PUSH, 7, DUP, 0, ADD, 0);
        answers("DROP", 7, PUSH, 7, PUSH, 8, DROP, 0);
        answers("SWAP", 3, PUSH, 5, PUSH, 8, SWAP, 0, SUB, 0);
        answers("SWAP leaves what is below", 1, PUSH, 1, PUSH, 5, PUSH, 8, SWAP, 0, DROP, 0, DROP, 0);
        answers("JUMP", 1, PUSH, 1, JUMP, 3, PUSH, 2);
        answers("JZERO of 0", 1, PUSH, 1, PUSH, 0, JZERO, 4, PUSH, 2);
        answers("JZERO of another", 2, PUSH, 1, PUSH, -1, JZERO, 4, PUSH, 2);
        answers("LEFT", 98, PUSH, 1, LEFT, 0);
        answers("CALL of none, its 0", 0, callOf(6, 0, 1, 0));
        answers("CALL of none, two answers", 5, join(code(PUSH, 5), callOf(-1, 0, 1, 0), code(DROP, 0, DROP, 0)));
        answers("CALL without a program, its 1", 1, callOf(5, 30, 1, 0));
        answers("CALL without a program, its result", 0, join(callOf(5, 30, 1, 0), code(DROP, 0)));
        answers("CALL takes three, adds two", 5, join(code(PUSH, 5), callOf(5, 0, 1, 0), code(DROP, 0, DROP, 0)));
        answers("SEND takes three", 5, join(code(PUSH, 5), sendTo(5, 0, 1)));
        answers("LOG takes one", 5, PUSH, 5, PUSH, 6, LOG, 0);
    }

    /** Every instruction with just what it takes, with one energy too few, and with one int too few. */
    private static void costsAndStack() {
        for (int op = 0; op < 24; op++) {
            part = "op " + op;
            boolean ends = op == RETURN || op == REVERT;
            // A jump goes to the instruction behind it, which is the one that ends the call.
            int b = TAKES[op] + 1;
            int[] before = pushes(TAKES[op]);
            int spent = TAKES[op] + COST[op];
            ContractEngine x = new ContractEngine(400);
            program(x, 0, join(before, code(op, b, PUSH, 0, RETURN, 0)));
            due("call", x.call(0, 0, 0, 100), op == REVERT ? REVERTED : OK);
            due("used()", x.used(), ends ? spent : spent + 2);
            due("one too few", x.call(0, 0, 0, spent - 1), OUT);
            due("used()", x.used(), spent - 1);
            // Just this paid: the next instruction is OUT, but this one is no fault.
            if (!ends) {
                due("just enough", x.call(0, 0, 0, spent), OUT);
                due("all but RETURN", x.call(0, 0, 0, spent + 1), OUT);
            }
            due("enough", x.call(0, 0, 0, ends ? spent : spent + 2), op == REVERT ? REVERTED : OK);

            if (TAKES[op] > 0) {
                program(x, 1, join(pushes(TAKES[op] - 1), code(op, b - 1, PUSH, 0, RETURN, 0)));
                due("an int too few", x.call(1, 7, 0, 100), FAULT);
                due("used()", x.used(), 100);
                due("result()", x.result(), 0);
                due("balance(1)", x.balance(1), 0);
                due("OUT goes before FAULT", x.call(1, 7, 0, spent - 2), OUT);
                due("paid, but FAULT", x.call(1, 7, 0, spent - 1), FAULT);
            }
            fullStack(op);
            atTheEnd(op);
        }
    }

    private static void fullStack(int op) {
        ContractEngine x = new ContractEngine(400);
        program(x, 0, join(pushes(6), code(op, 7, RETURN, 0)));
        boolean over = 6 - TAKES[op] + ADDS[op] > 6;
        due("on a full stack", x.call(0, 0, 0, 100), over ? FAULT : op == REVERT ? REVERTED : OK);
        due("OUT on a full stack", x.call(0, 0, 0, 5 + COST[op]), OUT);
    }

    /** As the last instruction it goes on to none, but for RETURN, REVERT and a jump that is made. */
    private static void atTheEnd(int op) {
        ContractEngine x = new ContractEngine(400);
        program(x, 0, join(pushes(TAKES[op]), code(op, TAKES[op] + 1)));
        due("at the end", x.call(0, 9, 0, 100), op == RETURN ? OK : op == REVERT ? REVERTED : FAULT);
        due("calls(): a CALL that faults calls nothing", x.calls(), 1);
        due("events()", x.events(), 0);
        due("used()", x.used(), op == RETURN || op == REVERT ? 2 : 100);
        due("balance(0)", x.balance(0), op == RETURN ? 9 : 0);
        due("OUT at the end", x.call(0, 9, 0, TAKES[op] + COST[op] - 1), OUT);
    }

    private static void jumps() {
        for (int target : new int[] {-1, 2, 24, 25, Integer.MIN_VALUE, Integer.MAX_VALUE}) {
            ContractEngine x = new ContractEngine(400);
            program(x, 0, JUMP, target, DROP, 0);
            due("JUMP " + target, x.call(0, 0, 0, 50), FAULT);
            program(x, 0, ARG, 0, JZERO, target == 2 ? 4 : target, PUSH, 8, RETURN, 0);
            due("JZERO " + target, x.call(0, 0, 0, 50), FAULT);
            due("JZERO " + target + " not made", x.call(0, 0, 1, 50), OK);
        }
        ContractEngine x = new ContractEngine(400);
        program(x, 0, JUMP, 0);
        due("for ever", x.call(0, 0, 0, 400), OUT);
        due("used()", x.used(), 400);
        program(x, 1, JUMP, 3, PUSH, 77, RETURN, 0, ARG, 0, JZERO, 1, JUMP, 0);
        due("back to before", x.call(1, 0, 0, 400), OK);
        due("result()", x.result(), 77);
        program(x, 2, JUMP, 2, RETURN, 0, PUSH, 4, PUSH, 0, JZERO, 1);
        due("a jump at the end", x.call(2, 0, 0, 400), OK);
        due("result()", x.result(), 4);
        // A longer program of another account does not lengthen this one.
        program(x, 3, JUMP, 1);
        program(x, 4, PUSH, 1, PUSH, 1, RETURN, 0);
        due("JUMP 1 of a program of 1", x.call(3, 0, 0, 400), FAULT);
        // A full program whose last instruction answers.
        program(x, 5, join(code(JUMP, 22), pushes(22), code(RETURN, 0)));
        due("JUMP 22", x.call(5, 0, 0, 400), OK);
        due("used()", x.used(), 3);
    }

    private static void callsOfAccounts() {
        ContractEngine x = new ContractEngine(400);
        program(x, 1, CALLER, 0, STORE, 0, SELF, 0, STORE, 1, VALUE, 0, STORE, 2, ARG, 0, STORE, 3, PUSH, 1, HAS, 0, RETURN, 0);
        program(x, 0, join(callOf(1, 12, 34, 0), code(STORE, 0, RETURN, 0)));
        due("call", x.call(0, 20, 5, 100), OK);
        due("result()", x.result(), 12);
        due("the flag", x.cell(0, 0), 1);
        int[] cells = {0, 1, 12, 34};
        for (int k = 0; k < 4; k++) {
            due("cell(1, " + k + ")", x.cell(1, k), cells[k]);
        }
        due("balance(0)", x.balance(0), 8);
        due("balance(1)", x.balance(1), 12);
        due("used()", x.used(), 11 + 36 + 1 + 3 + 1 + 9);
        // All of the balance, and one more.
        due("call", x.call(0, 4, 5, 100), OK);
        due("balance(0)", x.balance(0), 0);
        due("call", x.call(0, 11, 5, 100), OK);
        due("denied: result", x.result(), 0);
        due("denied: flag", x.cell(0, 0), 0);
        due("calls()", x.calls(), 1);
        due("used(): all the energy is left", x.used(), 20 - 4);
        due("balance(0)", x.balance(0), 11);
    }

    private static void deniedCalls() {
        ContractEngine x = new ContractEngine(400);
        due("call", x.call(1, 1000000000, 0, 0), OK);
        program(x, 0, ARG, 0, PUSH, 1, PUSH, 0, CALL, 0, STORE, 0, RETURN, 0);
        due("call", x.call(0, 5, 1, 100), OK);
        due("above the most money: flag", x.cell(0, 0), 0);
        due("balance(0)", x.balance(0), 5);
        due("call", x.call(0, 0, 2, 100), OK);
        due("flag", x.cell(0, 0), 1);
        due("call", x.call(0, 0, 0, 100), OK);
        due("of itself: flag", x.cell(0, 0), 1);
        due("balance(0): of itself", x.balance(0), 4);
        program(x, 2, ARG, 0, PUSH, -1, PUSH, 0, CALL, 0, STORE, 0, RETURN, 0);
        due("call", x.call(2, 5, 3, 100), OK);
        due("amount -1: flag", x.cell(2, 0), 0);
        due("amount -1: calls()", x.calls(), 1);
        // Of itself with the amount that it has: that is on the account while the check is made.
        program(x, 3, CALLER, 0, SELF, 0, SAME, 0, JZERO, 6, PUSH, 7, RETURN, 0,
            SELF, 0, ARG, 0, PUSH, 0, CALL, 0, STORE, 0, RETURN, 0);
        due("call", x.call(3, 600000000, 400000000, 100), OK);
        due("of itself, just the most", x.cell(3, 0), 1);
        due("result()", x.result(), 7);
        due("call", x.call(3, 0, 400000001, 100), OK);
        due("of itself, above the most", x.cell(3, 0), 0);
        due("balance(3)", x.balance(3), 600000000);
        due("balance(1)", x.balance(1), 1000000000);
    }

    /** Five calls may be under way; the sixth is denied, also that of an account without a program. */
    private static void fiveUnderWay() {
        ContractEngine x = new ContractEngine(400);
        for (int account = 0; account < 5; account++) {
            program(x, account, PUSH, account + 1, PUSH, 0, ARG, 0, CALL, 0, STORE, 0, STORE, 1, LOAD, 0, RETURN, 0);
        }
        due("call", x.call(0, 0, 0, 400), OK);
        due("calls()", x.calls(), 5);
        int[] flags = {1, 1, 1, 1, 0};
        for (int account = 0; account < 5; account++) {
            due("flag of " + account, x.cell(account, 0), flags[account]);
        }
        due("result of the one that was denied", x.cell(3, 1), 0);
        due("call", x.call(1, 0, 0, 400), OK);
        due("calls() with account 5", x.calls(), 5);
        due("flag of 4", x.cell(4, 0), 1);
        // A message begins with no call under way.
        program(x, 5, join(sendTo(0, 0, 0), code(PUSH, 0, RETURN, 0)));
        program(x, 4, PUSH, 5, RETURN, 0);
        program(x, 3, join(sendTo(2, 0, 0), code(PUSH, 3, RETURN, 0)));
        program(x, 2, PUSH, 3, HAS, 0, RETURN, 0);
        program(x, 0, PUSH, 0, PUSH, 0, PUSH, 0, CALL, 0, PUSH, 9, LOG, 1, RETURN, 0);
        due("call", x.call(5, 0, 0, 400), OK);
        due("calls(): the message goes five deep", x.calls(), 6);
        due("events()", x.events(), 5);
    }

    private static void energyOfCalls() {
        int[][] cases = {{0, 0}, {-1, 0}, {Integer.MIN_VALUE, 0}, {1, 1}, {40, 40}, {88, 88}, {89, 89}, {90, 0}, {Integer.MAX_VALUE, 0}};
        for (int[] pair : cases) {
            ContractEngine x = new ContractEngine(400);
            program(x, 1, LEFT, 0, RETURN, 0);
            program(x, 0, join(callOf(1, 0, 0, pair[0]), code(DROP, 0, RETURN, 0)));
            int given = pair[1] == 0 ? 89 : pair[1];
            due("call", x.call(0, 0, 0, 100), OK);
            due("CALL " + pair[0] + ": energy", x.result(), given < 2 ? 0 : given - 1);
            due("CALL " + pair[0] + ": used()", x.used(), 11 + (given < 2 ? given : 2) + 2);
        }
        // OUT and FAULT take all that the call was given, REVERT only what it used.
        int[][] ends = {{DROP, 40}, {REVERT, 2}, {JUMP, 40}};
        for (int[] pair : ends) {
            ContractEngine x = new ContractEngine(400);
            program(x, 1, pair[0] == JUMP ? code(JUMP, 0) : pair[0] == REVERT ? code(PUSH, 6, REVERT, 0) : code(DROP, 0, RETURN, 0));
            program(x, 0, join(callOf(1, 0, 0, 40), code(STORE, 0, STORE, 1, LEFT, 0, RETURN, 0)));
            due("call", x.call(0, 0, 0, 100), OK);
            due("energy left", x.result(), 100 - 11 - pair[1] - 16 - 1);
            due("flag", x.cell(0, 0), 0);
            due("result", x.cell(0, 1), pair[0] == REVERT ? 6 : 0);
            due("used()", x.used(), 11 + pair[1] + 16 + 2);
        }
    }

    private static void undone() {
        for (int end = 0; end < 4; end++) {
            part = "undone, end " + end;
            ContractEngine x = new ContractEngine(400);
            int[][] ending = {code(PUSH, 1, RETURN, 0), code(PUSH, 1, REVERT, 0), code(JUMP, 16), code(DROP, 0)};
            // Account 1: changes a cell, an event, a message, money of account 2 and a call that is OK.
            program(x, 1, join(code(PUSH, 5, STORE, 0, PUSH, 6, LOG, 60), sendTo(4, 1, 0), callOf(2, 3, 0, 0),
                code(DROP, 0, DROP, 0, PUSH, 0, DROP, 0), ending[end]));
            program(x, 2, PUSH, 8, STORE, 2, PUSH, 7, LOG, 70, PUSH, 0, RETURN, 0);
            program(x, 0, join(code(PUSH, 4, STORE, 3, PUSH, 5, LOG, 50), callOf(1, 10, 0, 150),
                code(STORE, 0, STORE, 1, PUSH, 8, LOG, 80, PUSH, 9, RETURN, 0)));
            due("call", x.call(0, 100, 0, 400), OK);
            boolean ok = end == 0;
            due("flag", x.cell(0, 0), ok ? 1 : 0);
            due("result", x.cell(0, 1), end < 2 ? 1 : 0);
            due("own cell stays", x.cell(0, 3), 4);
            due("cell(1, 0)", x.cell(1, 0), ok ? 5 : 0);
            due("cell(2, 2)", x.cell(2, 2), ok ? 8 : 0);
            due("balance(0)", x.balance(0), ok ? 90 : 100);
            due("balance(1)", x.balance(1), ok ? 6 : 0);
            due("balance(2)", x.balance(2), ok ? 3 : 0);
            due("balance(4): the message", x.balance(4), ok ? 1 : 0);
            due("calls()", x.calls(), ok ? 4 : 3);
            due("events()", x.events(), ok ? 4 : 2);
            due("event(0, 1)", x.event(0, 1), 50);
            due("event(1, 1)", x.event(1, 1), ok ? 60 : 80);
            // The same as the first call.
            long before = x.digest(0);
            due("call", x.call(1, 11, 0, 200), end);
            due("digest", x.digest(0) == before ? 1 : 0, ok ? 0 : 1);
            due("events()", x.events(), ok ? 2 : 0);
            due("calls()", x.calls(), ok ? 3 : 2);
        }
    }

    private static void undoneInside() {
        ContractEngine x = new ContractEngine(400);
        // Account 2 is OK, account 1 that called it REVERTs; account 0 goes on.
        program(x, 2, PUSH, 3, STORE, 0, PUSH, 2, LOG, 2, PUSH, 0, RETURN, 0);
        program(x, 1, join(callOf(2, 1, 0, 0), code(STORE, 0, REVERT, 0)));
        program(x, 0, join(callOf(2, 1, 0, 0), code(DROP, 0, DROP, 0), callOf(1, 2, 0, 0), code(RETURN, 0)));
        due("call", x.call(0, 10, 0, 400), OK);
        due("result()", x.result(), 0);
        due("balances", x.balance(0) * 10000 + x.balance(1) * 100 + x.balance(2), 90001);
        due("cell(2, 0)", x.cell(2, 0), 3);
        due("cell(1, 0)", x.cell(1, 0), 0);
        due("events()", x.events(), 1);
        due("calls()", x.calls(), 4);
        // Events of an undone call make room again.
        program(x, 3, PUSH, 1, LOG, 30, PUSH, 1, LOG, 31, PUSH, 1, LOG, 32, PUSH, 1, LOG, 33, PUSH, 1, LOG, 34, PUSH, 1, LOG, 35,
            PUSH, 1, LOG, 36, PUSH, 1, LOG, 37, PUSH, 1, LOG, 38, ARG, 0, JZERO, 22, PUSH, 4, RETURN, 0, PUSH, 5, REVERT, 0);
        int[] drop = code(DROP, 0, DROP, 0);
        program(x, 5, join(callOf(3, 0, 1, 0), callOf(3, 0, 0, 0), drop, code(PUSH, 7, LOG, 40, PUSH, 8, LOG, 41, PUSH, 9, LOG, 42, RETURN, 0)));
        due("call", x.call(5, 0, 0, 400), OK);
        due("events()", x.events(), 12);
        due("event(9, 1)", x.event(9, 1), 40);
        due("event(11, 2)", x.event(11, 2), 9);
        program(x, 5, join(callOf(3, 0, 1, 0), drop, callOf(3, 0, 1, 0), drop, callOf(3, 0, 0, 0), drop,
            code(PUSH, 7, LOG, 40, PUSH, 8, RETURN, 0)));
        due("call", x.call(5, 0, 0, 400), OK);
        due("events(): 18, then some that are undone, then one", x.events(), 19);
        due("event(18, 1)", x.event(18, 1), 40);
        due("event(17, 1)", x.event(17, 1), 38);
    }

    private static void warmCells() {
        ContractEngine x = new ContractEngine(400);
        int[][] runs = {
            {LOAD, 0, LOAD, 0, 7}, {LOAD, 0, LOAD, 4, 7}, {LOAD, 0, LOAD, 1, 10}, {LOAD, 0, STORE, 0, 8}, {LOAD, 0, STORE, 3, 13},
            {LOAD, -1, LOAD, 3, 7}};
        for (int[] run : runs) {
            program(x, 0, run[0], run[1], run[2], run[3], PUSH, 0, RETURN, 0);
            for (int again = 0; again < 2; again++) {
                due("call", x.call(0, 0, 0, 100), OK);
                due(run[0] + " " + run[1] + ", " + run[2] + " " + run[3], x.used(), run[4] + 2);
            }
        }
        program(x, 0, PUSH, 0, STORE, 2, LOAD, 2, STORE, 2, RETURN, 0);
        due("not enough for a cold STORE", x.call(0, 0, 0, 8), OUT);
        program(x, 0, PUSH, 1, STORE, 2, LOAD, 2, STORE, 2, PUSH, 0, RETURN, 0);
        due("call", x.call(0, 0, 0, 16), OK);
        due("used()", x.used(), 16);

        // Account 1 touches its cell 0, and ends as its argument says.
        program(x, 1, LOAD, 0, ARG, 0, JZERO, 5, PUSH, 0, RETURN, 0, PUSH, 0, REVERT, 0);
        int[] drop = code(DROP, 0, DROP, 0);
        int ok = 5 + 1 + 1 + 2;
        int[] argOfOneCall = {1, 0};
        for (int first : argOfOneCall) {
            for (int second : argOfOneCall) {
                program(x, 2, join(callOf(1, 0, first, 0), drop, callOf(1, 0, second, 0), drop, code(PUSH, 1, RETURN, 0)));
                due("call", x.call(2, 0, 0, 200), OK);
                int warmThen = first == 1 ? 3 : 0;
                due("warm by a call that ended " + first, x.used(), 2 * 13 + ok + ok - warmThen + 2);
            }
        }
        // Undone, but warm before: warm still. And not warm by another account's cell of that number.
        program(x, 2, join(callOf(1, 0, 1, 0), drop, callOf(1, 0, 0, 0), drop, callOf(1, 0, 0, 0), drop, code(LOAD, 0, RETURN, 0)));
        due("call", x.call(2, 0, 0, 200), OK);
        due("warm, undone, warm", x.used(), 3 * 13 + ok + ok - 3 + ok - 3 + 5 + 1);
        // Account 3 calls account 1, which is OK, and is undone itself.
        program(x, 3, join(callOf(1, 0, 1, 0), code(REVERT, 0)));
        program(x, 2, join(callOf(3, 0, 1, 0), drop, callOf(1, 0, 1, 0), drop, code(LOAD, 0, RETURN, 0)));
        due("call", x.call(2, 0, 0, 200), OK);
        due("OK inside an undone call", x.used(), 2 * 13 + 11 + 1 + ok + ok + 5 + 1);
        // A STORE by a call that is undone does not warm either.
        program(x, 1, PUSH, 7, STORE, 0, PUSH, 0, REVERT, 0);
        program(x, 2, join(callOf(1, 0, 1, 0), drop, callOf(1, 0, 1, 0), drop, code(LOAD, 0, RETURN, 0)));
        due("call", x.call(2, 0, 0, 200), OK);
        due("STORE undone", x.used(), 2 * 13 + 2 * 11 + 5 + 1);
        // Messages go on with what the first call has warmed.
        program(x, 4, LOAD, 1, DROP, 0, CALLER, 0, SELF, 0, SAME, 0, JZERO, 8, PUSH, 4, RETURN, 0, PUSH, 4, PUSH, 0, PUSH, 0, SEND, 0,
            PUSH, 1, RETURN, 0);
        due("call", x.call(4, 0, 0, 200), OK);
        due("warm in a message", x.used(), 5 + 1 + 4 + 8 + 2 + 2 + 1 + 4 + 2);
    }

    private static void refunds() {
        ContractEngine x = new ContractEngine(400);
        int[] drop = code(DROP, 0, DROP, 0);
        // Account 1 sets cell 0 to 1, then to 0, and ends as its argument says: 9 + 4 + 2 + 2.
        program(x, 1, PUSH, 1, STORE, 0, PUSH, 0, STORE, 0, ARG, 0, JZERO, 8, PUSH, 0, RETURN, 0, PUSH, 0, REVERT, 0);
        int once = 17;
        for (int first = 0; first < 2; first++) {
            for (int second = 0; second < 2; second++) {
                program(x, 2, join(callOf(1, 0, first, 0), drop, callOf(1, 0, second, 0), drop, code(PUSH, 0, RETURN, 0)));
                due("call", x.call(2, 0, 0, 200), OK);
                int warm = first == 1 ? 5 : 0;
                due("ends " + first + " " + second, x.used(), 26 + 2 * once - warm + 2 - 4 * (first + second));
            }
        }
        // A message's refund counts too, and that of the calls before it stays if the message is undone.
        for (int arg = 0; arg < 2; arg++) {
            program(x, 3, join(code(PUSH, 1, STORE, 0, PUSH, 0, STORE, 0), sendTo(1, 0, arg), code(PUSH, 0, RETURN, 0)));
            due("call", x.call(3, 0, 0, 200), OK);
            due("message of " + arg, x.used(), 13 + 8 + 2 + once - 4 - 4 * arg);
        }
        // Each call from outside begins with a refund of 0.
        program(x, 4, PUSH, 0, STORE, 0, PUSH, 1, PUSH, 1, PUSH, 1, PUSH, 1, PUSH, 1, PUSH, 1, RETURN, 0);
        due("call", x.call(4, 0, 0, 200), OK);
        due("no refund of an earlier call", x.used(), 16);
    }

    private static void messagesInOrder() {
        ContractEngine x = new ContractEngine(400);
        // Account 1 logs its argument, caller, amount and energy.
        program(x, 1, ARG, 0, LOG, 0, CALLER, 0, LOG, 1, VALUE, 0, LOG, 2, LEFT, 0, LOG, 3, PUSH, 77, RETURN, 0);
        program(x, 0, join(sendTo(1, 5, 100), sendTo(1, 6, 200), code(PUSH, 9, LOG, 9, PUSH, 4, RETURN, 0)));
        due("call", x.call(0, 20, 0, 100), OK);
        due("result()", x.result(), 4);
        due("calls()", x.calls(), 3);
        due("balance(0)", x.balance(0), 9);
        due("balance(1)", x.balance(1), 11);
        int[][] list = {{0, 9, 9}, {1, 0, 100}, {1, 1, 0}, {1, 2, 5}, {1, 3, 100 - 23 - 16}, {1, 0, 200}, {1, 1, 0}, {1, 2, 6},
            {1, 3, 100 - 23 - 22 - 16}};
        due("events()", x.events(), list.length);
        for (int k = 0; k < list.length; k++) {
            for (int which = 0; which < 3; which++) {
                due("event(" + k + ", " + which + ")", x.event(k, which), list[k][which]);
            }
        }
        due("used()", x.used(), 23 + 22 + 22);
        // The energy is not enough for the second message: it is undone, the call stays OK.
        due("call", x.call(0, 20, 0, 23 + 22 + 21), OK);
        due("events()", x.events(), 5);
        due("used()", x.used(), 66);
        due("calls()", x.calls(), 3);
        due("balance(0)", x.balance(0), 24);
        due("balance(1)", x.balance(1), 16);
        // Nothing is left for either, but an account without a program needs nothing.
        program(x, 0, join(sendTo(1, 5, 100), sendTo(5, 6, 200), code(PUSH, 4, RETURN, 0)));
        due("call", x.call(0, 0, 0, 18), OK);
        due("used()", x.used(), 18);
        due("balance(1)", x.balance(1), 16);
        due("balance(5)", x.balance(5), 6);
        due("calls()", x.calls(), 3);
        due("version()", x.version(), 3);
    }

    private static void messagesThatEndOtherwise() {
        ContractEngine x = new ContractEngine(400);
        program(x, 1, PUSH, 1, LOG, 1, ARG, 0, JZERO, 6, PUSH, 0, REVERT, 0, DROP, 0, PUSH, 1, RETURN, 0);
        program(x, 2, PUSH, 2, LOG, 2, LEFT, 0, RETURN, 0);
        // REVERTED, denied (too much), denied (below 0), then one that is OK.
        program(x, 0, join(sendTo(1, 3, 1), sendTo(2, 99, 0), sendTo(2, -1, 0), sendTo(2, 4, 0), code(PUSH, 6, RETURN, 0)));
        due("call", x.call(0, 10, 0, 200), OK);
        due("calls()", x.calls(), 3);
        due("events()", x.events(), 1);
        due("event(0, 1)", x.event(0, 1), 2);
        due("balance(0)", x.balance(0), 6);
        due("balance(1)", x.balance(1), 0);
        due("balance(2)", x.balance(2), 4);
        due("used()", x.used(), 34 + 9 + 7);
        // FAULT takes all the energy: the next one is OUT.
        program(x, 0, join(sendTo(1, 3, 0), sendTo(2, 4, 0), code(PUSH, 6, RETURN, 0)));
        due("call", x.call(0, 10, 0, 200), OK);
        due("calls()", x.calls(), 3);
        due("events()", x.events(), 0);
        due("used()", x.used(), 200);
        due("balance(0)", x.balance(0), 16);
        due("balance(2)", x.balance(2), 4);
        // The balance is looked at when the message is taken, not when it is sent.
        program(x, 3, join(sendTo(5, 3, 0), sendTo(5, 3, 0), code(PUSH, 6, RETURN, 0)));
        due("call", x.call(3, 5, 0, 200), OK);
        due("balance(3)", x.balance(3), 2);
        due("balance(5)", x.balance(5), 3);
        due("calls()", x.calls(), 2);
        // No message if the call is not OK, and none left over for the next call.
        int[][] endings = {code(PUSH, 6, REVERT, 0), code(PUSH, 6), code(JUMP, 4)};
        for (int[] ending : endings) {
            program(x, 4, join(sendTo(5, 1, 0), ending));
            due("not OK", x.call(4, 5, 0, 50) == OK ? 1 : 0, 0);
            due("calls()", x.calls(), 1);
            due("call", x.call(2, 0, 0, 50), OK);
            due("calls()", x.calls(), 1);
            due("balance(5)", x.balance(5), 3);
        }
        // To itself.
        program(x, 4, CALLER, 0, PUSH, -1, SAME, 0, JZERO, 9, PUSH, 4, VALUE, 0, PUSH, 8, SEND, 0, ARG, 0, ARG, 0, RETURN, 0);
        due("call", x.call(4, 5, 2, 50), OK);
        due("balance(4)", x.balance(4), 5);
        due("calls()", x.calls(), 2);
        due("result()", x.result(), 2);
    }

    private static void sixMessages() {
        ContractEngine x = new ContractEngine(400);
        // A loop that sends as many as its argument says to account 1, the arguments falling to 1.
        int[] sender = code(ARG, 0, STORE, 0, PUSH, 1, PUSH, 0, LOAD, 0, SEND, 0, LOAD, 0, PUSH, 1, SUB, 0, DUP, 0, STORE, 0, JZERO, 13,
            JUMP, 2, PUSH, 0, RETURN, 0);
        program(x, 0, sender);
        program(x, 1, ARG, 0, LOG, 1, PUSH, 0, RETURN, 0);
        for (int many = 1; many <= 9; many++) {
            int kept = many > 6 ? 6 : many;
            due("call", x.call(0, 0, many, 400), OK);
            due("calls() of " + many, x.calls(), 1 + kept);
            due("events() of " + many, x.events(), kept);
            for (int k = 0; k < kept; k++) {
                due("event(" + k + ", 2) of " + many, x.event(k, 2), many - k);
            }
        }
        // Lost for want of an account: such a one takes no place among the six.
        for (int none : new int[] {-1, 6, Integer.MIN_VALUE, Integer.MAX_VALUE}) {
            program(x, 2, join(sendTo(none, 0, 0), sendTo(1, 0, 3), code(PUSH, 0, RETURN, 0)));
            due("call", x.call(2, 0, 0, 400), OK);
            due("calls()", x.calls(), 2);
            due("used()", x.used(), 8 + 8 + 2 + 7);
        }
        // The message that is taken waits no more: of the two that its call sends, one has room behind five.
        program(x, 3, ARG, 0, LOG, 3, ARG, 0, PUSH, 6, SAME, 0, JZERO, 14, PUSH, 1, PUSH, 0, PUSH, 50, SEND, 0, PUSH, 1, PUSH, 0, PUSH, 51, SEND, 0,
            PUSH, 0, RETURN, 0);
        sender[5] = 3;
        program(x, 0, sender);
        due("call", x.call(0, 0, 6, 400), OK);
        due("calls()", x.calls(), 8);
        due("events()", x.events(), 7);
        int[] seen = {6, 5, 4, 3, 2, 1, 50};
        for (int k = 0; k < 7; k++) {
            due("event(" + k + ", 2)", x.event(k, 2), seen[k]);
            due("event(" + k + ", 0)", x.event(k, 0), k < 6 ? 3 : 1);
        }
    }

    private static void messagesUndone() {
        ContractEngine x = new ContractEngine(400);
        program(x, 5, ARG, 0, LOG, 5, PUSH, 0, RETURN, 0);
        // Two, then two that are undone, then one, then two by the same account that stay.
        program(x, 1, join(sendTo(5, 0, 21), sendTo(5, 0, 22), code(ARG, 0, JZERO, 12, PUSH, 0, RETURN, 0, PUSH, 0, REVERT, 0)));
        program(x, 0, join(sendTo(5, 0, 11), sendTo(5, 0, 12), callOf(1, 0, 0, 0), sendTo(5, 0, 13), callOf(1, 0, 1, 0), code(RETURN, 0)));
        due("call", x.call(0, 0, 0, 400), OK);
        int[] seen = {11, 12, 13, 21, 22};
        due("events()", x.events(), 5);
        for (int k = 0; k < 5; k++) {
            due("event(" + k + ", 2)", x.event(k, 2), seen[k]);
        }
        // A message whose call sends one and is undone takes that one with it, but not those that waited.
        program(x, 0, join(sendTo(1, 0, 0), sendTo(5, 0, 31), sendTo(1, 0, 1), sendTo(5, 0, 32), code(PUSH, 0, RETURN, 0)));
        due("call", x.call(0, 0, 0, 400), OK);
        int[] then = {31, 32, 21, 22};
        due("events()", x.events(), 4);
        for (int k = 0; k < 4; k++) {
            due("event(" + k + ", 2)", x.event(k, 2), then[k]);
        }
        due("calls()", x.calls(), 7);
        // A message that sends itself on until the energy is used up.
        program(x, 2, PUSH, 2, PUSH, 0, PUSH, 0, SEND, 0, PUSH, 1, RETURN, 0);
        due("call", x.call(2, 0, 0, 400), OK);
        due("calls()", x.calls(), 41);
        due("used()", x.used(), 400);
        due("result()", x.result(), 1);
    }

    public static void main(String[] args) {
        about("instructions", TermsTest::instructions);
        costsAndStack();
        about("jumps", TermsTest::jumps);
        about("calls of accounts", TermsTest::callsOfAccounts);
        about("denied calls", TermsTest::deniedCalls);
        about("five under way", TermsTest::fiveUnderWay);
        about("energy of calls", TermsTest::energyOfCalls);
        undone();
        about("undone inside", TermsTest::undoneInside);
        about("warm cells", TermsTest::warmCells);
        about("refunds", TermsTest::refunds);
        about("messages in order", TermsTest::messagesInOrder);
        about("messages that end otherwise", TermsTest::messagesThatEndOtherwise);
        about("six messages", TermsTest::sixMessages);
        about("messages undone", TermsTest::messagesUndone);
        end();
    }
}
