/** Each sentence of the document's terms that names a boundary has a test of its own: at the boundary and on both sides of it. */
public final class TermEdgesTest extends Checks {
    /** Stores the flag and the result of a CALL in cells 0 and 1, and answers the energy that is left behind the CALL. */
    private static int[] reporting(int... toOther) {
        return join(toOther, code(LEFT, 0, STORE, 3, STORE, 0, STORE, 1, LOAD, 3, RETURN, 0));
    }

    private static ContractEngine withProgram(int account, int... code) {
        ContractEngine x = new ContractEngine(400);
        program(x, account, code);
        return x;
    }

    // Accounts and programs

    private static void programOfOneToTwentyFour() {
        for (int length = 2; length <= 24; length++) {
            ContractEngine x = withProgram(0, join(idle(0, length - 2), code(PUSH, 7, RETURN, 0)));
            due("call", x.call(0, 0, 0, length), OK);
            due("result() of " + length + " instructions", x.result(), 7);
            due("used() of " + length + " instructions", x.used(), length);
        }
        ContractEngine x = withProgram(0, RETURN, 0);
        due("one instruction", x.call(0, 0, 0, 400), FAULT);
    }

    private static void arithmeticWraps() {
        int[] values = {MIN, MIN + 1, -65536, -46341, -2, -1, 0, 1, 2, 46340, 46341, 65536, 1000000000, MAX - 1, MAX};
        ContractEngine[] engines = new ContractEngine[5];
        for (int a : values) {
            for (int op = ADD; op <= SAME; op++) {
                engines[op - ADD] = withProgram(0, PUSH, a, ARG, 0, op, 0, RETURN, 0);
            }
            for (int b : values) {
                long[] want = {(int) ((long) a + b), (int) ((long) a - b), (int) ((long) a * b), (long) a < (long) b ? 1 : 0,
                    a == b ? 1 : 0};
                for (int i = 0; i < 5; i++) {
                    due("call", engines[i].call(0, 0, b, 4), OK);
                    due("op " + (ADD + i) + " of " + a + ", " + b, engines[i].result(), want[i]);
                }
            }
        }
        // Told once in numbers, so that the test does not lean on Java alone.
        int[][] told = {{ADD, MAX, 1, MIN}, {ADD, MAX, 0, MAX}, {ADD, MIN, -1, MAX}, {SUB, MIN, 1, MAX}, {SUB, 0, MIN, MIN}, {MUL, 46340,
            46340, 2147395600},
            {MUL, 46341, 46341, -2147479015}, {MUL, MIN, -1, MIN}, {MUL, 65536, 65536, 0}, {LESS, MIN, MAX, 1}, {LESS, MAX, MIN, 0}};
        for (int[] t : told) {
            ContractEngine x = withProgram(0, PUSH, t[1], PUSH, t[2], t[0], 0, RETURN, 0);
            due("call", x.call(0, 0, 0, 4), OK);
            due("op " + t[0] + " of " + t[1] + ", " + t[2], x.result(), t[3]);
        }
    }

    // What is DENIED

    /** Account 0 (holding some) goes to another account with an amount, by CALL or by SEND: is it denied? */
    private static void goesTo(int holds, int other, int otherHolds, int amount, boolean denied) {
        String what = "holding " + holds + ", " + amount + " to account " + other + " holding " + otherHolds;
        for (int how = 0; how < 2; how++) {
            ContractEngine x = new ContractEngine(400);
            if (other != 0) {
                due("call", x.call(other, otherHolds, 0, 0), OK);
                program(x, other, PUSH, 66, LOG, 6, PUSH, 77, RETURN, 0);
            }
            int[] plain = {CALLER, 0, SELF, 0, SAME, 0, JZERO, 8, PUSH, 66, LOG, 6, PUSH, 77, RETURN, 0};
            int[] toOther = how == 0 ? callOf(other, amount, 0, 0) : join(sendTo(other, amount, 0), pushes(2));
            program(x, 0, join(plain, reporting(toOther)));
            String by = (how == 0 ? "CALL, " : "SEND, ") + what;
            due("call", x.call(0, holds, 0, 400), OK);
            due(by + ": calls()", x.calls(), denied ? 1 : 2);
            due(by + ": events()", x.events(), denied ? 0 : 1);
            due(by + ": balance(0)", x.balance(0), denied || other == 0 ? holds : holds - amount);
            if (other != 0) {
                due(by + ": balance of the other", x.balance(other), denied ? otherHolds : otherHolds + amount);
            }
            if (how == 0) {
                int own = other == 0 ? 4 : 0;
                due(by + ": flag", x.cell(0, 0), denied ? 0 : 1);
                due(by + ": result", x.cell(0, 1), denied ? 0 : 77);
                due(by + ": energy left", x.result(), 400 - 4 - 11 - 1 - (denied ? 0 : own + 7));
            }
        }
    }

    private static void amountBelowZero() {
        for (int amount : new int[] {MIN, MIN + 1, -2, -1, 0, 1}) {
            ContractEngine x = new ContractEngine(400);
            due("call", x.call(3, 5, 0, 0), OK);
            String before = state(x);
            due("from outside, amount " + amount, x.call(3, amount, 0, 9), amount < 0 ? DENIED : OK);
            due("balance(3)", x.balance(3), amount < 0 ? 5 : 5 + amount);
            if (amount < 0) {
                same("nothing happens", state(x), before);
            }
            goesTo(10, 1, 5, amount, amount < 0);
            goesTo(10, 0, 10, amount, amount < 0);
        }
    }

    private static void amountAboveTheCallersBalance() {
        for (int holds : new int[] {0, 1, 10, MOST_MONEY}) {
            for (int more = -1; more <= 1; more++) {
                if (holds + more >= 0) {
                    goesTo(holds, 1, 0, holds + more, more > 0);
                }
            }
            goesTo(holds, 1, 0, MAX, true);
        }
        goesTo(10, 0, 10, 10, false);
        goesTo(10, 0, 10, 11, true);
        // From outside no balance is looked at.
        ContractEngine x = new ContractEngine(400);
        due("from outside", x.call(0, MOST_MONEY, 0, 0), OK);
        // Balances are those of the moment: what the call itself has brought counts, what has been given away does not.
        program(x, 1, join(reporting(callOf(2, 10, 0, 0))));
        due("call", x.call(1, 10, 0, 400), OK);
        due("with the amount just brought", x.cell(1, 0), 1);
        due("call", x.call(1, 9, 0, 400), OK);
        due("one too few", x.cell(1, 0), 0);
        due("call", x.call(1, 1, 0, 400), OK);
        due("with what was left before", x.cell(1, 0), 1);
        program(x, 1, join(callAndDrop(2, 6, 0, 0), reporting(callOf(2, 5, 0, 0))));
        due("call", x.call(1, 10, 0, 400), OK);
        due("6 of 10 have been given away", x.cell(1, 0), 0);
        due("balance(1)", x.balance(1), 4);
    }

    private static void balancePlusAmountAboveTheMost() {
        for (int has : new int[] {0, 1, 7, 500000000, MOST_MONEY - 1, MOST_MONEY}) {
            for (int over : new int[] {-1, 0, 1, 2}) {
                int amount = MOST_MONEY - has + over;
                if (amount >= 0) {
                    ContractEngine x = new ContractEngine(400);
                    due("call", x.call(5, has, 0, 0), OK);
                    due("from outside, " + amount + " to " + has, x.call(5, amount, 0, 0), over > 0 ? DENIED : OK);
                    due("balance(5)", x.balance(5), over > 0 ? has : has + amount);
                    if (amount <= MOST_MONEY) {
                        goesTo(MOST_MONEY, 5, has, amount, over > 0);
                    }
                }
            }
            // The sum would wrap and look small.
            for (int amount : new int[] {MAX, MAX - 1, MAX - MOST_MONEY + 1, MOST_MONEY + 1}) {
                ContractEngine x = new ContractEngine(400);
                due("call", x.call(5, has, 0, 0), OK);
                due("from outside, " + amount + " to " + has, x.call(5, amount, 0, 0), DENIED);
                due("balance(5)", x.balance(5), has);
            }
        }
        // Of itself: the amount is still on the account when the sum is looked at.
        goesTo(500000000, 0, 0, 500000000, false);
        goesTo(500000001, 0, 0, 499999999, false);
        goesTo(500000001, 0, 0, 500000000, true);
        goesTo(MOST_MONEY, 0, 0, 0, false);
        goesTo(MOST_MONEY, 0, 0, 1, true);
    }

    /** Accounts 0 .. 4 each call the next one, and keep its flag and result. */
    private static ContractEngine chain(boolean lastHasProgram) {
        ContractEngine x = new ContractEngine(400);
        for (int account = 0; account < 5; account++) {
            program(x, account, join(callOf(account + 1, 0, 0, 0), code(STORE, 0, STORE, 1, PUSH, 50 + account, RETURN, 0)));
        }
        if (lastHasProgram) {
            program(x, 5, PUSH, 55, RETURN, 0);
        }
        return x;
    }

    private static void fiveUnderWay() {
        for (int first = 0; first <= 5; first++) {
            for (int program = 0; program < 2; program++) {
                ContractEngine x = chain(program == 1);
                boolean denied = first == 0;
                due("call", x.call(first, 0, 0, 400), OK);
                due("from account " + first + ": calls()", x.calls(), denied ? 5 : 6 - first);
                int lastUses = denied || program == 0 ? 0 : 2;
                due("from account " + first + ": used()", x.used(), (5 - first) * 29 + lastUses);
                for (int account = first; account < 5; account++) {
                    boolean last = account == 4;
                    due("flag in " + account, x.cell(account, 0), last && denied ? 0 : 1);
                    due("result in " + account, x.cell(account, 1), !last ? 51 + account : denied || program == 0 ? 0 : 55);
                }
            }
        }
    }

    private static void fiveUnderWayAgain() {
        // An account that calls itself until that is denied, with an event each time: five, and then five again.
        ContractEngine x = withProgram(1, join(callOf(1, 0, 0, 0), code(LOG, 1, DROP, 0, PUSH, 9, LOG, 2, PUSH, 0, RETURN, 0)));
        for (int again = 0; again < 2; again++) {
            due("call", x.call(1, 0, 0, 400), OK);
            due("calls()", x.calls(), 5);
            due("events()", x.events(), 10);
            due("the innermost one's CALL is denied", x.event(0, 2), 0);
            due("the next one's is not", x.event(2, 2), 1);
        }
        // Below account 0 there is room for four, each time.
        program(x, 0, join(callAndDrop(1, 0, 0, 0), callAndDrop(1, 0, 0, 0), code(PUSH, 0, RETURN, 0)));
        due("call", x.call(0, 0, 0, 400), OK);
        due("calls()", x.calls(), 9);
        due("events()", x.events(), 16);
        // When a message is taken no call is under way.
        program(x, 0, join(sendTo(1, 0, 0), sendTo(1, 0, 0), code(PUSH, 0, RETURN, 0)));
        due("call", x.call(0, 0, 0, 400), OK);
        due("calls()", x.calls(), 11);
        due("events()", x.events(), 20);
        // Calls that were undone are under way no more.
        program(x, 1, join(callOf(1, 0, 0, 0), code(PUSH, 0, REVERT, 0)));
        program(x, 0, join(callAndDrop(1, 0, 0, 0), callAndDrop(1, 0, 0, 0), code(PUSH, 0, RETURN, 0)));
        due("call", x.call(0, 0, 0, 400), OK);
        due("calls()", x.calls(), 9);
    }

    private static void deniedFromOutside() {
        for (int amount : new int[] {-1, MOST_MONEY - 6, MAX}) {
            ContractEngine x = withProgram(2, PUSH, 4, LOG, 5, PUSH, 6, STORE, 0, PUSH, 8, RETURN, 0);
            due("call", x.call(2, 7, 0, 400), OK);
            String state = state(x);
            due("call with " + amount, x.call(2, amount, 0, 400), DENIED);
            same("state", state(x), state);
            same("events", events(x), " (2 5 4)");
            due("result()", x.result(), 0);
            due("used()", x.used(), 0);
            due("calls()", x.calls(), 0);
            due("version()", x.version(), 1);
            due("kept()", x.kept(), 1);
        }
    }

    private static void amountMoves() {
        ContractEngine x = withProgram(0, reporting(callOf(1, 10, 0, 0)));
        program(x, 1, PUSH, 0, HAS, 0, PUSH, 1, HAS, 0, LOG, 1, LOG, 0, PUSH, 0, RETURN, 0);
        due("call", x.call(0, 25, 0, 400), OK);
        same("balances while the called account runs", events(x), " (1 1 10) (1 0 15)");
        due("balance(0)", x.balance(0), 15);
        due("balance(1)", x.balance(1), 10);
        due("balance(2)", x.balance(2), 0);
    }

    private static void withoutAProgram() {
        for (int energy : new int[] {0, 1, 400}) {
            ContractEngine x = new ContractEngine(400);
            due("call", x.call(4, 9, 5, energy), OK);
            due("result()", x.result(), 0);
            due("used()", x.used(), 0);
            due("calls()", x.calls(), 1);
            due("balance(4)", x.balance(4), 9);
            due("version()", x.version(), 1);
        }
        ContractEngine x = withProgram(0, reporting(callOf(4, 3, 5, 0)));
        due("call", x.call(0, 9, 0, 400), OK);
        due("flag", x.cell(0, 0), 1);
        due("result", x.cell(0, 1), 0);
        due("energy left", x.result(), 400 - 12);
        due("balance(4)", x.balance(4), 3);
    }

    // OUT and FAULT

    /** An instruction behind what it takes, then PUSH 0 and RETURN; a jump goes on to the next one. */
    private static ContractEngine alone(int op, int before) {
        return withProgram(0, join(pushes(before), code(op, before + 1, PUSH, 0, RETURN, 0)));
    }

    private static void tooLittleEnergy() {
        for (int op = 0; op < 24; op++) {
            boolean ends = op == RETURN || op == REVERT;
            int ok = op == REVERT ? REVERTED : OK;
            int upTo = TAKES[op] + COST[op];
            int all = ends ? upTo : upTo + 2;
            for (int energy = 0; energy <= all + 1; energy++) {
                ContractEngine x = alone(op, TAKES[op]);
                int want = energy < all ? OUT : ok;
                due("op " + op + " with " + energy, x.call(0, 5, 0, energy), want);
                due("op " + op + " with " + energy + ": used()", x.used(), want == OUT ? energy : all);
                // A CALL or SEND has given 1 of the 5 to account 1.
                due("op " + op + " with " + energy + ": balances", x.balance(0) + x.balance(1), want == OK ? 5 : 0);
            }
        }
        // Before it does anything: a CALL that is OUT makes no call, one that is just paid does.
        for (int energy = 10; energy <= 12; energy++) {
            ContractEngine x = withProgram(0, join(callOf(1, 0, 0, 0), code(RETURN, 0)));
            due("call", x.call(0, 0, 0, energy), energy == 12 ? OK : OUT);
            due("calls() with " + energy, x.calls(), energy == 10 ? 1 : 2);
        }
    }

    private static void warmCellsCostLess() {
        int[][] seconds = {{LOAD, 2}, {STORE, 3}};
        for (int[] second : seconds) {
            int[] run = join(code(LOAD, 0, second[0], 0), second[0] == STORE ? code(PUSH, 0) : code(), code(RETURN, 0));
            int all = 5 + second[1] + (second[0] == STORE ? 2 : 1);
            for (int energy = all - 1; energy <= all; energy++) {
                ContractEngine x = withProgram(0, run);
                due("LOAD, then op " + second[0] + " with " + energy, x.call(0, 0, 0, energy), energy < all ? OUT : OK);
            }
        }
    }

    private static void tooFewInts() {
        for (int op = 0; op < 24; op++) {
            for (int has = 0; has <= TAKES[op] + 1; has++) {
                ContractEngine x = alone(op, has);
                boolean fault = has < TAKES[op];
                int ok = op == REVERT ? REVERTED : OK;
                due("op " + op + " on " + has, x.call(0, 5, 0, 100), fault ? FAULT : ok);
                if (fault) {
                    due("op " + op + " on " + has + ": used()", x.used(), 100);
                    due("op " + op + " on " + has + ": result()", x.result(), 0);
                    due("op " + op + " on " + has + ": balance(0)", x.balance(0), 0);
                    due("op " + op + " on " + has + ": calls()", x.calls(), 1);
                    due("just paid: FAULT", x.call(0, 5, 0, has + COST[op]), FAULT);
                    due("not paid: OUT", x.call(0, 5, 0, has + COST[op] - 1), OUT);
                }
            }
        }
        // Those of the caller are not there for the called one, and none are left from the call before.
        ContractEngine x = withProgram(1, RETURN, 0);
        program(x, 0, join(pushes(3), callOf(1, 0, 0, 20), code(RETURN, 0)));
        due("call", x.call(0, 0, 0, 100), OK);
        due("the called one's RETURN is a fault", x.result(), 0);
        due("used()", x.used(), 3 + 11 + 20 + 1);
        due("call", x.call(1, 0, 0, 100), FAULT);
    }

    private static void moreThanSixInts() {
        for (int op = 0; op < 24; op++) {
            for (int has = 4; has <= 6; has++) {
                ContractEngine x = withProgram(0, join(pushes(has), code(op, has + 1, RETURN, 0)));
                int behind = has - TAKES[op] + ADDS[op];
                boolean fault = behind > 6;
                int ok = op == REVERT ? REVERTED : OK;
                due("op " + op + " on " + has, x.call(0, 5, 0, 100), fault ? FAULT : ok);
                if (fault) {
                    due("op " + op + " on " + has + ": used()", x.used(), 100);
                    due("op " + op + " on " + has + ": balance(0)", x.balance(0), 0);
                    due("just paid: FAULT", x.call(0, 5, 0, has + COST[op]), FAULT);
                    due("not paid: OUT", x.call(0, 5, 0, has + COST[op] - 1), OUT);
                }
            }
        }
        // Each call under way has six of its own: every one of five holds three and makes a CALL with three more.
        ContractEngine x = withProgram(1, join(pushes(3), callOf(1, 0, 0, 0), code(ADD, 0, ADD, 0, ADD, 0, ADD, 0, RETURN, 0)));
        due("call", x.call(1, 0, 0, 400), OK);
        due("calls()", x.calls(), 5);
        due("result(): 3 for each, and 1 for each but the innermost", x.result(), 5 * 3 + 4);
    }

    private static void nextIsNotThere() {
        for (int op = 0; op < 24; op++) {
            boolean ends = op == RETURN || op == REVERT;
            int upTo = TAKES[op] + COST[op];
            // At the end: what it would go on to is just behind the program.
            ContractEngine x = withProgram(0, join(pushes(TAKES[op]), code(op, TAKES[op] + 1)));
            int want = op == RETURN ? OK : op == REVERT ? REVERTED : FAULT;
            due("op " + op + " at the end", x.call(0, 5, 0, 100), want);
            due("op " + op + " at the end: used()", x.used(), ends ? upTo : 100);
            due("op " + op + " at the end: result()", x.result(), ends ? 1 : 0);
            due("op " + op + " at the end: calls()", x.calls(), 1);
            due("op " + op + " at the end: balance(0)", x.balance(0), op == RETURN ? 5 : 0);
            due("op " + op + " at the end, just paid", x.call(0, 5, 0, upTo), want);
            due("op " + op + " at the end, just paid: used()", x.used(), upTo);
            due("op " + op + " at the end, not paid", x.call(0, 5, 0, upTo - 1), OUT);
        }
        // A program of 24 has none behind it either, though other programs have been written.
        ContractEngine x = withProgram(1, join(idle(0, 22), code(PUSH, 1, RETURN, 0)));
        program(x, 0, join(idle(0, 23), code(PUSH, 1)));
        due("24 instructions without RETURN", x.call(0, 0, 0, 100), FAULT);
        program(x, 5, join(idle(0, 23), code(PUSH, 1)));
        due("24 instructions of account 5", x.call(5, 0, 0, 100), FAULT);
        program(x, 0, PUSH, 1, PUSH, 2);
        due("the tail of a longer program is gone", x.call(0, 0, 0, 100), FAULT);
    }

    private static void jumpsOutside() {
        int[] outside = {MIN, MIN + 1, -24, -2, -1, 5, 6, 24, 25, 29, MAX - 1, MAX};
        for (int b : outside) {
            ContractEngine x = withProgram(0, ARG, 0, JZERO, b, DROP, 0, PUSH, 1, RETURN, 0);
            due("JZERO " + b + " of 0", x.call(0, 0, 0, 100), FAULT);
            due("JZERO " + b + " of 0: used()", x.used(), 100);
            due("JZERO " + b + " of 0: result()", x.result(), 0);
            due("JZERO " + b + " of 0, just paid", x.call(0, 0, 0, 2), FAULT);
            due("JZERO " + b + " of 0, not paid", x.call(0, 0, 0, 1), OUT);
            program(x, 0, ARG, 0, ARG, 0, JZERO, b, DROP, 0, PUSH, 1, RETURN, 0);
            due("JZERO " + b + " of 1", x.call(0, 0, 1, 100), OK);
            program(x, 0, JUMP, b, PUSH, 1, PUSH, 1, PUSH, 1, RETURN, 0);
            due("JUMP " + b, x.call(0, 0, 0, 100), FAULT);
            due("JUMP " + b + ", just paid", x.call(0, 0, 0, 1), FAULT);
            due("JUMP " + b + ", not paid", x.call(0, 0, 0, 0), OUT);
        }
        // To the first and to the last one.
        ContractEngine x = withProgram(0, JUMP, 2, RETURN, 0, PUSH, 9, PUSH, 0, JZERO, 1);
        due("the last instruction jumps back", x.call(0, 0, 0, 100), OK);
        due("result()", x.result(), 9);
        program(x, 0, PUSH, 5, JUMP, 4, PUSH, 6, DROP, 0, RETURN, 0);
        due("JUMP to the last of five", x.call(0, 0, 0, 100), OK);
        due("result()", x.result(), 5);
        program(x, 0, join(code(PUSH, 5, JUMP, 23), pushes(21), code(RETURN, 0)));
        due("JUMP to the last of 24", x.call(0, 0, 0, 100), OK);
        due("used()", x.used(), 3);
        program(x, 0, PUSH, 1, JUMP, 0);
        due("JUMP 0: the seventh PUSH is a fault", x.call(0, 0, 0, 100), FAULT);
        due("JUMP 0: 6 PUSH and 6 JUMP are paid", x.call(0, 0, 0, 12), OUT);
        due("JUMP 0: and the seventh PUSH", x.call(0, 0, 0, 13), FAULT);
        for (int arg : new int[] {MIN, -1, 0, 1, MAX}) {
            program(x, 1, ARG, 0, JZERO, 4, PUSH, 1, RETURN, 0, PUSH, 2, RETURN, 0);
            due("call", x.call(1, 0, arg, 100), OK);
            due("JZERO of " + arg, x.result(), arg == 0 ? 2 : 1);
        }
    }

    private static void noEnergyIsLeft() {
        int[][] others = {code(PUSH, 7, RETURN, 0), code(PUSH, 7, REVERT, 0), code(JUMP, 0), code(DROP, 0)};
        for (int end = OK; end <= FAULT; end++) {
            for (int b : new int[] {2, 3, 40}) {
                ContractEngine x = withProgram(0, reporting(callOf(1, 0, 0, b)));
                program(x, 1, others[end]);
                due("call", x.call(0, 0, 0, 100), OK);
                due("ends as " + end + " with " + b + ": energy left behind", x.result(), 100 - 12 - (end < OUT ? 2 : b));
                due("ends as " + end + ": result", x.cell(0, 1), end < OUT ? 7 : 0);
                due("ends as " + end + ": flag", x.cell(0, 0), end == OK ? 1 : 0);
                due("call", x.call(1, 0, 0, b), end);
                due("ends as " + end + " with " + b + ": used()", x.used(), end < OUT ? 2 : b);
                due("ends as " + end + ": result()", x.result(), end < OUT ? 7 : 0);
            }
        }
    }

    // UNDONE

    /** Account 1 changes all that can be changed, then ends as told; what is there of it behind the call by account 0? */
    private static void undoneByEnd() {
        int[][] endings = {code(PUSH, 1, RETURN, 0), code(PUSH, 1, REVERT, 0), code(JUMP, 18), code(DROP, 0)};
        for (int end = OK; end <= FAULT; end++) {
            ContractEngine x = withProgram(2, PUSH, 8, STORE, 2, PUSH, 7, LOG, 70, PUSH, 0, RETURN, 0);
            program(x, 1, join(code(PUSH, 5, STORE, 0, PUSH, 6, LOG, 60), sendTo(3, 1, 0), callAndDrop(2, 3, 0, 0), code(ARG, 0, STORE, 1,
                ARG, 0, DROP, 0),
                endings[end]));
            program(x, 0, join(code(PUSH, 5, LOG, 50), sendTo(4, 2, 0), callAndDrop(1, 10, 9, 90), sendTo(5, 4, 0), code(PUSH, 8, LOG, 80,
                PUSH, 9, RETURN, 0)));
            due("call", x.call(0, 100, 0, 400), OK);
            boolean ok = end == OK;
            same("state, inside, end " + end, state(x), ok ? " [84: 0 0 0 0] [6: 5 9 0 0] [3: 0 0 8 0] [1: 0 0 0 0] [2: 0 0 0 0] [4: 0 0 0 0]"
                : " [94: 0 0 0 0] [0: 0 0 0 0] [0: 0 0 0 0] [0: 0 0 0 0] [2: 0 0 0 0] [4: 0 0 0 0]");
            same("events, inside, end " + end, events(x), ok ? " (0 50 5) (1 60 6) (2 70 7) (0 80 8)" : " (0 50 5) (0 80 8)");
            due("calls()", x.calls(), ok ? 6 : 5);
            // As a call from outside.
            String before = state(x);
            due("call", x.call(1, 11, 9, 90), end);
            if (!ok) {
                same("state, from outside, end " + end, state(x), before);
                same("events, from outside, end " + end, events(x), "");
            }
            due("version()", x.version(), ok ? 2 : 1);
            due("calls()", x.calls(), ok ? 3 : 2);
            // As a message.
            program(x, 0, join(sendTo(1, 10, 9), code(PUSH, 9, RETURN, 0)));
            before = state(x);
            due("call", x.call(0, 0, 0, 100), OK);
            if (!ok) {
                same("state, by a message, end " + end, state(x), before);
                same("events, by a message, end " + end, events(x), "");
                due("calls(), by a message", x.calls(), 3);
            }
        }
    }

    private static void undoneWithWhatItCalled() {
        // Account 2 is OK inside account 1, which is undone; account 0 had called 2 before.
        ContractEngine x = withProgram(2, LOAD, 0, PUSH, 1, ADD, 0, DUP, 0, STORE, 0, LOG, 2, PUSH, 0, RETURN, 0);
        program(x, 1, join(callAndDrop(2, 1, 0, 0), callAndDrop(2, 1, 0, 0), code(PUSH, 0, REVERT, 0)));
        program(x, 0, join(callAndDrop(2, 1, 0, 0), callAndDrop(1, 5, 0, 0), callAndDrop(2, 1, 0, 0), code(PUSH, 0, RETURN, 0)));
        due("call", x.call(0, 100, 0, 400), OK);
        same("state", state(x), " [98: 0 0 0 0] [0: 0 0 0 0] [2: 2 0 0 0] [0: 0 0 0 0] [0: 0 0 0 0] [0: 0 0 0 0]");
        same("events", events(x), " (2 2 1) (2 2 2)");
        due("calls()", x.calls(), 6);
    }

    private static void usedEnergyIsUsed() {
        ContractEngine x = withProgram(1, PUSH, 1, STORE, 0, PUSH, 0, REVERT, 0);
        program(x, 0, join(callAndDrop(1, 0, 0, 0), callAndDrop(1, 0, 0, 0), code(LEFT, 0, RETURN, 0)));
        due("call", x.call(0, 0, 0, 100), OK);
        due("energy left", x.result(), 100 - 2 * (13 + 11) - 1);
        due("used()", x.used(), 2 * (13 + 11) + 2);
    }

    // Instructions

    private static void looksAt() {
        for (int self = 0; self <= 5; self++) {
            ContractEngine x = withProgram(self, CALLER, 0, LOG, 0, SELF, 0, LOG, 1, VALUE, 0, LOG, 2, ARG, 0, LOG, 3, PUSH, 0, RETURN, 0);
            due("call", x.call(self, 6, MIN, 400), OK);
            same("from outside", events(x), " (" + self + " 0 -1) (" + self + " 1 " + self + ") (" + self + " 2 6) (" + self + " 3 " + MIN + ")");
            int other = 5 - self;
            program(x, other, join(callOf(self, 4, MAX, 0), code(RETURN, 0)));
            due("call", x.call(other, 9, 1, 400), OK);
            same("by CALL", events(x), " (" + self + " 0 " + other + ") (" + self + " 1 " + self + ") (" + self + " 2 4) (" + self + " 3 " + MAX + ")");
            program(x, other, join(sendTo(self, 3, -7), code(PUSH, 0, RETURN, 0)));
            due("call", x.call(other, 9, 1, 400), OK);
            same("by SEND", events(x), " (" + self + " 0 " + other + ") (" + self + " 1 " + self + ") (" + self + " 2 3) (" + self + " 3 -7)");
        }
    }

    private static void hasOfNone() {
        ContractEngine x = new ContractEngine(400);
        for (int account = 0; account <= 5; account++) {
            due("call", x.call(account, 100 + account, 0, 0), OK);
        }
        program(x, 3, ARG, 0, HAS, 0, RETURN, 0);
        for (int account = 0; account <= 5; account++) {
            due("call", x.call(3, 0, account, 5), OK);
            due("HAS of " + account, x.result(), 100 + account);
        }
        for (int account : NO_ACCOUNTS) {
            due("call", x.call(3, 0, account, 5), OK);
            due("HAS of " + account, x.result(), 0);
            due("used()", x.used(), 5);
        }
    }

    private static void cellIsBAndThree() {
        int[][] cells = {{MIN, 0}, {-5, 3}, {-4, 0}, {-3, 1}, {-2, 2}, {-1, 3}, {0, 0}, {1, 1}, {2, 2}, {3, 3}, {4, 0}, {5, 1}, {7, 3},
            {8, 0}, {MAX - 1, 2}, {MAX, 3}};
        for (int[] pair : cells) {
            for (int account : new int[] {0, 5}) {
                ContractEngine x = withProgram(account, PUSH, 9, STORE, pair[0], PUSH, 0, RETURN, 0);
                due("call", x.call(account, 0, 0, 400), OK);
                for (int k = 0; k < 4; k++) {
                    due("STORE " + pair[0] + ": cell(" + account + ", " + k + ")", x.cell(account, k), k == pair[1] ? 9 : 0);
                }
                program(x, account, LOAD, pair[0], LOAD, pair[1], ADD, 0, RETURN, 0);
                due("call", x.call(account, 0, 0, 400), OK);
                due("LOAD " + pair[0], x.result(), 18);
                due("LOAD " + pair[0] + ": used(), the same cell is warm", x.used(), 5 + 2 + 2);
            }
        }
        for (int value : new int[] {MIN, -1, 0, 1, MAX}) {
            ContractEngine x = withProgram(1, ARG, 0, STORE, 2, LOAD, 2, RETURN, 0);
            due("call", x.call(1, 0, value, 400), OK);
            due("STORE and LOAD of " + value, x.result(), value);
        }
    }

    private static void callOfNone() {
        for (int account = -1; account <= 6; account++) {
            boolean there = account >= 0 && account <= 5;
            ContractEngine x = withProgram(1, join(code(PUSH, 3), callOf(account == 1 ? 2 : account, 1, 0, 0), code(STORE, 0, STORE, 1,
                RETURN, 0)));
            due("call", x.call(1, 5, 0, 400), OK);
            due("CALL of " + account + ": what stands below", x.result(), 3);
            due("CALL of " + account + ": flag", x.cell(1, 0), there ? 1 : 0);
            due("CALL of " + account + ": result", x.cell(1, 1), 0);
            due("CALL of " + account + ": calls()", x.calls(), there ? 2 : 1);
            due("CALL of " + account + ": used()", x.used(), 1 + 11 + 16 + 1);
            due("CALL of " + account + ": balance(1)", x.balance(1), there ? 4 : 5);
        }
        for (int account : NO_ACCOUNTS) {
            for (int amount : new int[] {MIN, -1, 0, MAX}) {
                ContractEngine x = withProgram(1, reporting(callOf(account, amount, 0, 3)));
                due("call", x.call(1, 5, 0, 400), OK);
                due("CALL of " + account + ": energy left", x.result(), 400 - 12);
                due("CALL of " + account + ": calls()", x.calls(), 1);
            }
        }
    }

    private static void energyOfACall() {
        // 89 are left behind the CALL.
        int[][] given = {{MIN, 89}, {-1, 89}, {0, 89}, {1, 1}, {2, 2}, {3, 3}, {87, 87}, {88, 88}, {89, 89}, {90, 89}, {91, 89}, {MAX, 89}};
        for (int[] pair : given) {
            ContractEngine x = withProgram(1, JUMP, 0);
            program(x, 0, join(callOf(1, 0, 0, pair[0]), code(LOG, 0, DROP, 0, PUSH, 0, RETURN, 0)));
            due("CALL " + pair[0], x.call(0, 0, 0, 100), pair[1] <= 82 ? OK : OUT);
            due("CALL " + pair[0] + ": used()", x.used(), pair[1] <= 82 ? 11 + pair[1] + 7 : 100);
            program(x, 1, LEFT, 0, RETURN, 0);
            program(x, 0, join(callOf(1, 0, 0, pair[0]), code(DROP, 0, RETURN, 0)));
            due("call", x.call(0, 0, 0, 100), OK);
            due("CALL " + pair[0] + ": energy", x.result(), pair[1] == 1 ? 0 : pair[1] - 1);
        }
        // Nothing is left at all behind the CALL: the called program is OUT, one that is not there is OK.
        for (int b : new int[] {-1, 0, 1, 5}) {
            ContractEngine x = withProgram(1, PUSH, 0, RETURN, 0);
            program(x, 0, join(callOf(1, 0, 0, b), code(RETURN, 0)));
            due("call", x.call(0, 0, 0, 11), OUT);
            due("calls()", x.calls(), 2);
            due("used()", x.used(), 11);
        }
    }

    private static void leftBehindIt() {
        for (int energy = 1; energy <= 4; energy++) {
            ContractEngine x = withProgram(0, LEFT, 0, RETURN, 0);
            due("call", x.call(0, 0, 0, energy), energy < 2 ? OUT : OK);
            due("LEFT with " + energy, x.result(), energy < 2 ? 0 : energy - 1);
        }
        ContractEngine x = withProgram(1, LEFT, 0, LEFT, 0, SUB, 0, RETURN, 0);
        due("call", x.call(1, 0, 0, 4), OK);
        due("LEFT twice", x.result(), 1);
    }

    private static void returnAndRevert() {
        for (int value : new int[] {MIN, -1, 0, 1, MAX}) {
            for (int op = RETURN; op <= REVERT; op++) {
                ContractEngine x = withProgram(1, PUSH, 5, STORE, 0, ARG, 0, op, 0);
                due("call", x.call(1, 3, value, 50), op - RETURN);
                due("result()", x.result(), value);
                due("used()", x.used(), 11);
                due("cell(1, 0)", x.cell(1, 0), op == RETURN ? 5 : 0);
                due("balance(1)", x.balance(1), op == RETURN ? 3 : 0);
                program(x, 0, reporting(callOf(1, 0, value, 30)));
                due("call", x.call(0, 0, 0, 100), OK);
                due("result in the caller", x.cell(0, 1), value);
                due("flag in the caller", x.cell(0, 0), op == RETURN ? 1 : 0);
                due("energy left in the caller", x.result(), 100 - 12 - 11);
            }
        }
    }

    private static void stackInOrder() {
        ContractEngine x = withProgram(0, PUSH, 5, PUSH, 7, SWAP, 0, LOG, 1, LOG, 2, PUSH, 8, DUP, 0, LOG, 3, LOG, 4, PUSH, 9, PUSH, 6,
            DROP, 0, LOG, 5, PUSH, 0, RETURN, 0);
        due("call", x.call(0, 0, 0, 100), OK);
        same("what is taken", events(x), " (0 1 5) (0 2 7) (0 3 8) (0 4 8) (0 5 9)");
    }

    private static void logOfAny() {
        for (int value : new int[] {MIN, -1, 0, 1, MAX}) {
            ContractEngine x = withProgram(5, ARG, 0, LOG, value, PUSH, 0, RETURN, 0);
            due("call", x.call(5, 0, value, 7), OK);
            same("LOG " + value, events(x), " (5 " + value + " " + value + ")");
            due("used()", x.used(), 7);
        }
    }

    // WARM and the REFUND

    /** The energy of account 0's own run of two instructions on cells, and of two PUSH before and RETURN behind them. */
    private static void pairCosts(int firstOp, int firstB, int secondOp, int secondB, int want) {
        ContractEngine x = withProgram(0, PUSH, 1, PUSH, 1, firstOp, firstB, secondOp, secondB, PUSH, 1, RETURN, 0);
        for (int again = 0; again < 2; again++) {
            due("call", x.call(0, 0, 0, 100), OK);
            due("op " + firstOp + " " + firstB + ", op " + secondOp + " " + secondB + ", call " + again, x.used(), 4 + want);
        }
    }

    private static void warmByLoadOrStore() {
        pairCosts(LOAD, 0, LOAD, 0, 5 + 2);
        pairCosts(LOAD, 0, STORE, 0, 5 + 3);
        pairCosts(STORE, 0, LOAD, 0, 8 + 2);
        pairCosts(STORE, 0, STORE, 0, 8 + 3);
        pairCosts(LOAD, 0, LOAD, 1, 5 + 5);
        pairCosts(LOAD, 0, STORE, 3, 5 + 8);
        pairCosts(STORE, 3, LOAD, 2, 8 + 5);
        pairCosts(STORE, 3, STORE, 0, 8 + 8);
        pairCosts(LOAD, 4, LOAD, 0, 5 + 2);
        pairCosts(STORE, 3, STORE, -1, 8 + 3);
    }

    private static void warmInOneAccountAlone() {
        for (int k = 0; k < 4; k++) {
            for (int account = 0; account <= 4; account++) {
                ContractEngine x = withProgram(account + 1, LOAD, k, RETURN, 0);
                program(x, account, join(code(LOAD, k, DROP, 0), callAndDrop(account + 1, 0, 0, 0), callAndDrop(account + 1, 0, 0, 0),
                    code(LOAD, k, RETURN, 0)));
                due("call", x.call(account, 0, 0, 100), OK);
                due("cell " + k + " of " + account + ": used()", x.used(), 6 + 13 + 6 + 13 + 3 + 3);
            }
        }
    }

    private static void notWarmByAnUndoneCall() {
        // Account 1 touches its cell by LOAD or STORE and ends as told, with 20 energy; then once more.
        int[][] touches = {code(LOAD, 0, DROP, 0), code(PUSH, 1, STORE, 0)};
        int[] cold = {6, 9};
        int[] warm = {3, 4};
        int[][] endings = {code(PUSH, 0, RETURN, 0), code(PUSH, 0, REVERT, 0), code(JUMP, 2), code(DROP, 0)};
        for (int touch = 0; touch < 2; touch++) {
            for (int end = OK; end <= FAULT; end++) {
                ContractEngine x = withProgram(1, join(touches[touch], endings[end]));
                int[] twice = join(callAndDrop(1, 0, 0, 20), callAndDrop(1, 0, 0, 20));
                program(x, 0, join(twice, code(PUSH, 0, RETURN, 0)));
                due("call", x.call(0, 0, 0, 100), OK);
                int first = end < OUT ? cold[touch] + 2 : 20;
                int second = end < OUT ? (end == OK ? warm : cold)[touch] + 2 : 20;
                due("touch " + touch + ", end " + end + ": used()", x.used(), 26 + first + second + 2);
            }
        }
        // A cell that was warm before the undone call is warm behind it; one that only it had touched is not.
        ContractEngine x = withProgram(1, ARG, 0, JZERO, 5, LOAD, 0, PUSH, 0, RETURN, 0, LOAD, 0, LOAD, 1, REVERT, 0);
        program(x, 0, join(callAndDrop(1, 0, 1, 0), callAndDrop(1, 0, 0, 0), callAndDrop(1, 0, 0, 0), code(PUSH, 0, RETURN, 0)));
        due("call", x.call(0, 0, 0, 200), OK);
        due("used()", x.used(), 3 * 13 + (2 + 5 + 2) + 2 * (2 + 2 + 5 + 1) + 2);
        // Of an account that is entered twice: what the inner, undone run of it has touched is cold for the outer one.
        program(x, 2, CALLER, 0, PUSH, 0, LESS, 0, JZERO, 13, LOAD, 0, DROP, 0, PUSH, 2, PUSH, 0, PUSH, 0, CALL, 0, LOAD, 0, LOAD, 1,
            RETURN, 0,
            LOAD, 0, LOAD, 1, REVERT, 0);
        due("call", x.call(2, 0, 0, 200), OK);
        due("calls()", x.calls(), 2);
        due("used()", x.used(), 4 + 6 + 11 + (4 + 2 + 5 + 1) + 2 + 5 + 1);
    }

    private static void notWarmByWhatAnUndoneCallCalled() {
        ContractEngine x = withProgram(2, LOAD, 0, RETURN, 0);
        for (int op = RETURN; op <= REVERT; op++) {
            program(x, 1, join(callAndDrop(2, 0, 0, 0), code(PUSH, 0, op, 0)));
            program(x, 0, join(callAndDrop(1, 0, 0, 0), callAndDrop(2, 0, 0, 0), code(PUSH, 0, RETURN, 0)));
            due("call", x.call(0, 0, 0, 200), OK);
            due("used()", x.used(), 13 + 13 + 6 + 2 + 13 + (op == RETURN ? 3 : 6) + 2);
        }
    }

    private static void warmInMessages() {
        // The messages belong to the call from outside: what it or an earlier message has touched is warm, unless undone.
        for (int op = RETURN; op <= REVERT; op++) {
            ContractEngine x = withProgram(1, LOAD, 0, op, 0);
            program(x, 0, join(code(LOAD, 0, DROP, 0), sendTo(1, 0, 0), sendTo(1, 0, 0), sendTo(2, 0, 0), code(PUSH, 0, RETURN, 0)));
            program(x, 2, join(callAndDrop(1, 0, 0, 0), code(PUSH, 0, RETURN, 0)));
            for (int again = 0; again < 2; again++) {
                due("call", x.call(0, 0, 0, 200), OK);
                int then = op == RETURN ? 3 : 6;
                due("used()", x.used(), 6 + 24 + 2 + 6 + then + 13 + then + 2);
            }
        }
    }

    private static void refundOfAStore() {
        int[] values = {MIN, -1, 0, 1, MAX};
        for (int old : values) {
            for (int now : values) {
                ContractEngine x = withProgram(3, PUSH, old, STORE, 1, PUSH, now, STORE, 1, PUSH, 0, RETURN, 0);
                boolean refund = now == 0 && old != 0;
                due("call", x.call(3, 0, 0, 100), OK);
                due(now + " into " + old + ": used()", x.used(), 9 + 4 + 2 - (refund ? 3 : 0));
                program(x, 3, join(code(PUSH, now, STORE, 1), idle(2, 10), code(PUSH, 0, RETURN, 0)));
                due("call", x.call(3, 0, 0, 100), OK);
                due(now + " into " + now + ": used()", x.used(), 21);
                program(x, 3, PUSH, old, STORE, 1, PUSH, 0, RETURN, 0);
                due("call", x.call(3, 0, 0, 100), OK);
                program(x, 3, join(code(PUSH, now, STORE, 1), idle(2, 10), code(PUSH, 0, RETURN, 0)));
                due("call", x.call(3, 0, 0, 100), OK);
                due(now + " into " + old + " of an earlier call: used()", x.used(), 21 - (refund ? 4 : 0));
                due("cell(3, 1)", x.cell(3, 1), now);
            }
        }
    }

    private static void refundIsAgainWhatItWas() {
        // Cells 0 of accounts 1 and 2 are 1. Account 2 sets its own to 0 and is OK; account 1 does so twice and ends as told.
        int[] set = {PUSH, 1, STORE, 0, PUSH, 1, STORE, 1, PUSH, 0, RETURN, 0};
        int[][] endings = {code(PUSH, 0, RETURN, 0), code(PUSH, 0, REVERT, 0), code(JUMP, 2), code(DROP, 0)};
        for (int end = OK; end <= FAULT; end++) {
            ContractEngine x = withProgram(1, set);
            due("call", x.call(1, 0, 0, 100), OK);
            program(x, 2, set);
            due("call", x.call(2, 0, 0, 100), OK);
            program(x, 1, join(code(PUSH, 0, STORE, 0), endings[end]));
            program(x, 2, PUSH, 0, STORE, 0, PUSH, 0, RETURN, 0);
            program(x, 0, join(callAndDrop(2, 0, 0, 0), callAndDrop(1, 0, 0, 30), callAndDrop(1, 0, 0, 30), code(PUSH, 0, RETURN, 0)));
            due("call", x.call(0, 0, 0, 200), OK);
            // Undone twice: the cell is 1 each time, but only the 4 of account 2 stay. OK twice: the second finds a warm 0.
            int ofOne = end == OK ? 11 + 6 - 4 : end == REVERTED ? 11 + 11 : 60;
            due("end " + end + ": used()", x.used(), 39 + 11 - 4 + ofOne + 2);
            due("end " + end + ": cell(1, 0)", x.cell(1, 0), end == OK ? 0 : 1);
        }
        // What an OK call inside an undone one added is gone as well.
        ContractEngine x = withProgram(2, set);
        due("call", x.call(2, 0, 0, 100), OK);
        program(x, 2, PUSH, 0, STORE, 0, PUSH, 0, RETURN, 0);
        program(x, 1, join(callAndDrop(2, 0, 0, 0), code(PUSH, 0, REVERT, 0)));
        program(x, 0, join(callAndDrop(1, 0, 0, 0), code(PUSH, 0, RETURN, 0)));
        due("call", x.call(0, 0, 0, 200), OK);
        due("used()", x.used(), 13 + 13 + 11 + 2 + 2);
        due("cell(2, 0)", x.cell(2, 0), 1);
        // By a message that is undone too, and each call from outside begins with 0.
        program(x, 0, join(sendTo(1, 0, 0), sendTo(2, 0, 0), code(PUSH, 0, RETURN, 0)));
        due("call", x.call(0, 0, 0, 200), OK);
        due("used()", x.used(), 16 + 2 + 13 + 11 + 2 + 11 - 4);
        due("call", x.call(0, 0, 0, 200), OK);
        due("used(), now 0 into 0", x.used(), 16 + 2 + 13 + 11 + 2 + 11);
    }

    // MESSAGES

    /** Sends as many messages to account 1 as its argument says, the last one with the argument 1, the others with one more each. */
    private static final int[] SENDER = {ARG, 0, DUP, 0, PUSH, 1, SWAP, 0, PUSH, 0, SWAP, 0, SEND, 0, PUSH, 1, SUB, 0, DUP, 0, JZERO, 12,
        JUMP, 1, RETURN, 0};

    private static void sixWaitAlready() {
        for (int many = 1; many <= 9; many++) {
            ContractEngine x = withProgram(1, ARG, 0, LOG, 1, PUSH, 0, RETURN, 0);
            program(x, 0, SENDER);
            int kept = many > 6 ? 6 : many;
            due("call", x.call(0, 0, many, 400), OK);
            due(many + " sent: calls()", x.calls(), 1 + kept);
            StringBuilder seen = new StringBuilder();
            for (int i = 0; i < kept; i++) {
                seen.append(" (1 1 ").append(many - i).append(")");
            }
            same(many + " sent: those that came", events(x), seen.toString());
            // DUP, PUSH, SWAP, PUSH, SWAP, SEND, PUSH, SUB, DUP, JZERO: 14, and the JUMP back but once.
            due(many + " sent: a lost one is paid", x.used(), 1 + 15 * many - 1 + 1 + 7 * kept);
        }
    }

    private static void sixWaitWhileTheyAreTaken() {
        // Six wait; the first of them, taken, sends more: one has room behind the five, the next is lost.
        for (int more = 0; more <= 3; more++) {
            int[] sends = {};
            for (int i = 0; i < more; i++) {
                sends = join(sends, sendTo(2, 0, 50 + i));
            }
            ContractEngine x = withProgram(2, ARG, 0, LOG, 2, PUSH, 0, RETURN, 0);
            program(x, 1, join(code(ARG, 0, LOG, 1, ARG, 0, PUSH, 6, SAME, 0, JZERO, 6 + 4 * more), sends, code(PUSH, 0, RETURN, 0)));
            program(x, 0, SENDER);
            due("call", x.call(0, 0, 6, 400), OK);
            same("the first sends " + more, events(x), " (1 1 6) (1 1 5) (1 1 4) (1 1 3) (1 1 2) (1 1 1)" + (more > 0 ? " (2 2 50)" : ""));
        }
    }

    private static void sixWaitAndUndoing() {
        // With some waiting, a called account sends two and is undone: there is room for as many as before.
        for (int before = 3; before <= 6; before++) {
            ContractEngine x = withProgram(1, ARG, 0, LOG, 1, PUSH, 0, RETURN, 0);
            program(x, 3, SENDER);
            program(x, 2, join(sendTo(1, 0, 21), sendTo(1, 0, 22), code(PUSH, 0, REVERT, 0)));
            program(x, 4, join(sendTo(1, 0, 41), sendTo(1, 0, 42), code(PUSH, 0, RETURN, 0)));
            program(x, 0, join(callAndDrop(3, 0, before, 0), callAndDrop(2, 0, 0, 0), callAndDrop(4, 0, 0, 0), code(PUSH, 0, RETURN, 0)));
            due("call", x.call(0, 0, 0, 400), OK);
            StringBuilder seen = new StringBuilder();
            for (int i = 0; i < before; i++) {
                seen.append(" (1 1 ").append(before - i).append(")");
            }
            seen.append(before < 6 ? " (1 1 41)" : "").append(before < 5 ? " (1 1 42)" : "");
            same(before + " wait", events(x), seen.toString());
        }
    }

    private static void messageToNoAccount() {
        for (int account = -1; account <= 6; account++) {
            boolean there = account >= 0 && account <= 5;
            ContractEngine x = withProgram(2, join(sendTo(account, 1, 0), code(PUSH, 0, RETURN, 0)));
            if (account == 2) {
                program(x, 2, join(code(CALLER, 0, PUSH, 2, SAME, 0, JZERO, 6, PUSH, 0, RETURN, 0), sendTo(2, 1, 0), code(PUSH, 0, RETURN,
                    0)));
            }
            due("call", x.call(2, 5, 0, 400), OK);
            due("SEND to " + account + ": calls()", x.calls(), there ? 2 : 1);
            due("SEND to " + account + ": balance(2)", x.balance(2), there && account != 2 ? 4 : 5);
            if (account != 2) {
                due("SEND to " + account + ": used()", x.used(), 10);
            }
        }
        // Such a one takes none of the six places.
        for (int account : NO_ACCOUNTS) {
            ContractEngine x = withProgram(1, ARG, 0, LOG, 1, PUSH, 0, RETURN, 0);
            program(x, 3, SENDER);
            program(x, 0, join(sendTo(account, 0, 0), sendTo(account, 0, 0), callAndDrop(3, 0, 6, 0), code(PUSH, 0, RETURN, 0)));
            due("call", x.call(0, 0, 0, 400), OK);
            due("SEND to " + account + " and six more: events()", x.events(), 6);
        }
        // But one that will be denied does: it is lost only when it is taken.
        ContractEngine x = withProgram(1, ARG, 0, LOG, 1, PUSH, 0, RETURN, 0);
        program(x, 3, SENDER);
        program(x, 0, join(sendTo(1, -1, 0), sendTo(1, 99, 0), callAndDrop(3, 0, 6, 0), code(PUSH, 0, RETURN, 0)));
        due("call", x.call(0, 0, 0, 400), OK);
        due("two that are denied and six more: events()", x.events(), 4);
        due("two that are denied and six more: calls()", x.calls(), 6);
    }

    private static void nextMessageFollows() {
        // The first message ends in each way; the second one's energy is what is left then.
        int[][] others = {code(PUSH, 7, RETURN, 0), code(PUSH, 7, REVERT, 0), code(JUMP, 0), code(DROP, 0), code(PUSH, 7, RETURN, 0)};
        for (int end = OK; end <= DENIED; end++) {
            ContractEngine x = withProgram(1, others[end]);
            program(x, 2, LEFT, 0, LOG, 2, PUSH, 0, RETURN, 0);
            program(x, 0, join(sendTo(1, end == DENIED ? 6 : 1, 0), sendTo(2, 2, 0), sendTo(3, 2, 0), code(PUSH, 5, RETURN, 0)));
            due("call", x.call(0, 5, 0, 100), OK);
            boolean energy = end != OUT && end != FAULT;
            int left = 100 - 26 - (end == DENIED ? 0 : 2);
            due("first ends as " + end + ": calls()", x.calls(), end == DENIED ? 3 : 4);
            same("first ends as " + end + ": events", events(x), energy ? " (2 2 " + (left - 1) + ")" : "");
            due("first ends as " + end + ": used()", x.used(), energy ? 100 - left + 7 : 100);
            due("first ends as " + end + ": balance(1)", x.balance(1), end == OK ? 1 : 0);
            due("first ends as " + end + ": balance(2)", x.balance(2), energy ? 2 : 0);
            due("first ends as " + end + ": balance(3), without a program", x.balance(3), 2);
            due("first ends as " + end + ": result()", x.result(), 5);
            due("first ends as " + end + ": version()", x.version(), 1);
        }
    }

    private static void messageWithJustEnough() {
        // The first call uses 18, each message 7: one more or one less energy.
        for (int energy = 16; energy <= 33; energy++) {
            ContractEngine x = withProgram(1, PUSH, 7, LOG, 1, PUSH, 0, RETURN, 0);
            program(x, 0, join(sendTo(1, 1, 0), sendTo(1, 1, 0), code(PUSH, 5, RETURN, 0)));
            int come = energy >= 32 ? 2 : energy >= 25 ? 1 : 0;
            boolean ok = energy >= 18;
            due("energy " + energy, x.call(0, 9, 0, energy), ok ? OK : OUT);
            due("energy " + energy + ": events()", x.events(), come);
            due("energy " + energy + ": balance(1)", x.balance(1), come);
            due("energy " + energy + ": calls()", x.calls(), ok ? 3 : 1);
            due("energy " + energy + ": used()", x.used(), energy > 32 ? 32 : energy);
        }
    }

    private static void balancesWhenTaken() {
        // 10 on the account: a message is denied or not by what is there when it is taken.
        ContractEngine x = withProgram(0, join(sendTo(1, 6, 0), sendTo(1, 5, 0), sendTo(1, 4, 0), sendTo(1, 1, 0), sendTo(1, 0, 0),
            code(PUSH, 5, RETURN, 0)));
        due("call", x.call(0, 10, 0, 100), OK);
        due("calls()", x.calls(), 4);
        due("balance(0)", x.balance(0), 0);
        due("balance(1)", x.balance(1), 10);
        // Account 0 has nothing when it sends 4, but an earlier message makes account 2 give it all that it has.
        for (int has = 3; has <= 5; has++) {
            ContractEngine y = new ContractEngine(400);
            due("call", y.call(2, has, 0, 0), OK);
            program(y, 2, PUSH, 0, PUSH, 2, HAS, 0, PUSH, 0, CALL, 0, RETURN, 0);
            program(y, 0, join(code(CALLER, 0, PUSH, -1, SAME, 0, JZERO, 12), sendTo(2, 0, 0), sendTo(3, 4, 0), code(PUSH, 0, RETURN, 0)));
            due("call", y.call(0, 0, 0, 100), OK);
            due("brought " + has + ": calls()", y.calls(), has < 4 ? 3 : 4);
            due("brought " + has + ": balance(0)", y.balance(0), has < 4 ? has : has - 4);
            due("brought " + has + ": balance(3)", y.balance(3), has < 4 ? 0 : 4);
        }
    }

    private static void furtherMessages() {
        // Each one sends the next until its argument is 0; then all the energy that there is.
        ContractEngine x = withProgram(1, ARG, 0, JZERO, 8, PUSH, 1, PUSH, 0, ARG, 0, PUSH, 1, SUB, 0, SEND, 0, PUSH, 0, RETURN, 0);
        for (int arg : new int[] {0, 1, 6, 7, 8, 20}) {
            due("call", x.call(1, 0, arg, 400), OK);
            due(arg + " further ones: calls()", x.calls(), 1 + arg);
            due(arg + " further ones: used()", x.used(), 14 * arg + 4);
        }
        due("call", x.call(1, 0, 1000, 400), OK);
        // 28 times 14, and 8 for the one that is OUT.
        due("without end: calls()", x.calls(), 29);
        due("without end: used()", x.used(), 400);
    }

    private static void noMessageIfNotOk() {
        int[][] endings = {code(PUSH, 6, RETURN, 0), code(PUSH, 6, REVERT, 0), code(JUMP, 4), code(DROP, 0)};
        for (int end = OK; end <= FAULT; end++) {
            ContractEngine x = withProgram(1, join(sendTo(2, 1, 0), endings[end]));
            due("call", x.call(1, 5, 0, 100), end);
            due("end " + end + ": calls()", x.calls(), end == OK ? 2 : 1);
            due("end " + end + ": balance(2)", x.balance(2), end == OK ? 1 : 0);
            program(x, 3, PUSH, 0, RETURN, 0);
            due("the next call from outside", x.call(3, 0, 0, 100), OK);
            due("no message waits for it: calls()", x.calls(), 1);
            due("balance(2)", x.balance(2), end == OK ? 1 : 0);
        }
    }

    // VERSIONS

    private static void oneVersionForAll() {
        ContractEngine x = withProgram(0, join(sendTo(1, 1, 0), sendTo(2, 1, 0), sendTo(3, 99, 0), code(PUSH, 0, RETURN, 0)));
        program(x, 1, PUSH, 4, STORE, 0, PUSH, 0, RETURN, 0);
        program(x, 2, DROP, 0);
        due("call", x.call(0, 5, 0, 100), OK);
        due("version()", x.version(), 1);
        due("kept()", x.kept(), 1);
        due("past(0, 0, 4)", x.past(0, 0, 4), 4);
        due("past(0, 1, 0)", x.past(0, 1, 0), 4);
        due("past(0, 2, 4)", x.past(0, 2, 4), 0);
        for (int account = 0; account < 6; account++) {
            due("past(1, " + account + ", 4)", x.past(1, account, 4), 0);
            due("past(1, " + account + ", 0)", x.past(1, account, 0), 0);
        }
        due("back(1)", x.back(1), 0);
        same("state", state(x), " [0: 0 0 0 0] [0: 0 0 0 0] [0: 0 0 0 0] [0: 0 0 0 0] [0: 0 0 0 0] [0: 0 0 0 0]");
    }

    private static void startOverAfterBack() {
        // A call behind back() sees the cells of then, and its failing comes back to them.
        ContractEngine x = withProgram(1, LOAD, 0, PUSH, 1, ADD, 0, DUP, 0, STORE, 0, ARG, 0, JZERO, 9, LOAD, 0, RETURN, 0, LOAD, 0,
            REVERT, 0);
        for (int i = 1; i <= 8; i++) {
            due("call", x.call(1, 1, 1, 100), OK);
            due("result()", x.result(), i);
        }
        due("back(6)", x.back(6), 2);
        due("REVERTED", x.call(1, 1, 0, 100), REVERTED);
        due("result()", x.result(), 3);
        due("cell(1, 0)", x.cell(1, 0), 2);
        due("balance(1)", x.balance(1), 2);
        due("call", x.call(1, 1, 1, 100), OK);
        due("result()", x.result(), 3);
        due("version()", x.version(), 3);
        due("kept()", x.kept(), 1);
        due("past(1, 1, 0)", x.past(1, 1, 0), 2);
    }

    public static void main(String[] args) {
        about("'a PROGRAM of 1 .. 24 instructions, numbered from 0'", TermEdgesTest::programOfOneToTwentyFour);
        about("'All arithmetic is that of ints and wraps'", TermEdgesTest::arithmeticWraps);
        about("DENIED: 'the amount is below 0'", TermEdgesTest::amountBelowZero);
        about("DENIED: '(from an account) above the caller's balance'", TermEdgesTest::amountAboveTheCallersBalance);
        about("DENIED: 'balance plus the amount is above 1000000000'", TermEdgesTest::balancePlusAmountAboveTheMost);
        about("DENIED: '5 calls are under way'", TermEdgesTest::fiveUnderWay);
        about("DENIED: '5 calls are under way', one after the other", TermEdgesTest::fiveUnderWayAgain);
        about("DENIED: 'result 0, all energy left, nothing happens'", TermEdgesTest::deniedFromOutside);
        about("'the amount is taken from the caller's balance (from outside: from nowhere)'", TermEdgesTest::amountMoves);
        about("'An account without a program: OK with result 0, all energy left'", TermEdgesTest::withoutAProgram);
        about("OUT: 'if less is left than it costs'", TermEdgesTest::tooLittleEnergy);
        about("'cost 2, 5 if the cell is not WARM'; 'cost 3, 8 if it is not WARM'", TermEdgesTest::warmCellsCostLess);
        about("FAULT: 'the stack holds fewer ints than it takes'", TermEdgesTest::tooFewInts);
        about("FAULT: 'would hold more than 6 behind it'", TermEdgesTest::moreThanSixInts);
        about("FAULT: 'the next instruction is not there'", TermEdgesTest::nextIsNotThere);
        about("'jumps to b outside the program'", TermEdgesTest::jumpsOutside);
        about("'OUT and FAULT: result 0, no energy is left'", TermEdgesTest::noEnergyIsLeft);
        about("UNDONE: 'all balances, cells, events and waiting messages'", TermEdgesTest::undoneByEnd);
        about("UNDONE: with the calls that it made", TermEdgesTest::undoneWithWhatItCalled);
        about("UNDONE: 'The energy that it used is used'", TermEdgesTest::usedEnergyIsUsed);
        about("ARG, CALLER, SELF, VALUE", TermEdgesTest::looksAt);
        about("HAS: '0 if there is none'", TermEdgesTest::hasOfNone);
        about("LOAD and STORE: 'cell b & 3 of the own account'", TermEdgesTest::cellIsBAndThree);
        about("CALL: 'no account 0 .. 5: adds 0, 0'", TermEdgesTest::callOfNone);
        about("CALL: 'b if b is above 0 and what is left is more than b, else all that is left'", TermEdgesTest::energyOfACall);
        about("LEFT: 'the energy that is left behind it'", TermEdgesTest::leftBehindIt);
        about("RETURN and REVERT: 'the energy left stays'", TermEdgesTest::returnAndRevert);
        about("DUP, DROP, SWAP", TermEdgesTest::stackInOrder);
        about("LOG: 'the EVENT (own account, b, x)'", TermEdgesTest::logOfAny);
        about("WARM: 'if a LOAD or STORE of it was executed before in this call from outside'", TermEdgesTest::warmByLoadOrStore);
        about("WARM: of the own account alone", TermEdgesTest::warmInOneAccountAlone);
        about("WARM: 'but not by a call that has been undone'", TermEdgesTest::notWarmByAnUndoneCall);
        about("WARM: nor by what an undone call called", TermEdgesTest::notWarmByWhatAnUndoneCallCalled);
        about("WARM: in messages", TermEdgesTest::warmInMessages);
        about("REFUND: 'A STORE of 0 into a cell that is not 0 adds 4'", TermEdgesTest::refundOfAStore);
        about("REFUND: 'again what it was at that call's beginning'", TermEdgesTest::refundIsAgainWhatItWas);
        about("SEND: 'lost if 6 wait already'", TermEdgesTest::sixWaitAlready);
        about("SEND: 'lost if 6 wait already', by a message", TermEdgesTest::sixWaitWhileTheyAreTaken);
        about("SEND: 'lost if 6 wait already', with a call that is undone", TermEdgesTest::sixWaitAndUndoing);
        about("SEND: 'lost if .. there is no account 0 .. 5 of that number'", TermEdgesTest::messageToNoAccount);
        about("MESSAGES: 'However it ends (DENIED too), the next one follows'", TermEdgesTest::nextMessageFollows);
        about("MESSAGES: 'with the energy that is left then'", TermEdgesTest::messageWithJustEnough);
        about("MESSAGES: the balances when it is taken", TermEdgesTest::balancesWhenTaken);
        about("MESSAGES: 'it may send further ones'", TermEdgesTest::furtherMessages);
        about("MESSAGES: 'No message waits at the beginning .. or when it does not end as OK'", TermEdgesTest::noMessageIfNotOk);
        about("VERSIONS: 'a new version of all balances and cells'", TermEdgesTest::oneVersionForAll);
        about("VERSIONS: going on behind back", TermEdgesTest::startOverAfterBack);
        end();
    }
}
