/** The promises 1 to 16, one method each: ordinary inputs, the edges that the document names, wrong inputs. */
public final class PromisesTest extends Checks {
    /** An account that stores its argument in cell 0 and answers it. */
    private static void keeper(ContractEngine x, int account) {
        program(x, account, ARG, 0, STORE, 0, ARG, 0, RETURN, 0);
    }

    private static long digestNow(ContractEngine x) {
        long h = 1;
        for (int account = 0; account < 6; account++) {
            h = h * 31 + x.balance(account);
            for (int k = 0; k < 4; k++) {
                h = h * 31 + x.cell(account, k);
            }
        }
        return h;
    }

    private static void constants() {
        due("OK", ContractEngine.OK, 0);
        due("REVERTED", ContractEngine.REVERTED, 1);
        due("OUT", ContractEngine.OUT, 2);
        due("FAULT", ContractEngine.FAULT, 3);
        due("DENIED", ContractEngine.DENIED, 4);
        due("REFUSED", ContractEngine.REFUSED, -1);
    }

    private static void promise1() {
        int[][] limits = {{Integer.MIN_VALUE, 20}, {-1, 20}, {0, 20}, {19, 20}, {20, 20}, {21, 21}, {250, 250},
            {399, 399}, {400, 400}, {401, 400}, {Integer.MAX_VALUE, 400}};
        for (int[] pair : limits) {
            ContractEngine x = new ContractEngine(pair[0]);
            due("limit " + pair[0] + ": at it", x.call(0, 0, 0, pair[1]), 0);
            due("limit " + pair[0] + ": above it", x.call(0, 0, 0, pair[1] + 1), -1);
        }
        ContractEngine x = new ContractEngine(100);
        due("events()", x.events(), 0);
        due("event(0, 0)", x.event(0, 0), 0);
        due("result()", x.result(), 0);
        due("used()", x.used(), 0);
        due("calls()", x.calls(), 0);
        due("version()", x.version(), 0);
        due("kept()", x.kept(), 0);
        for (int account = 0; account < 6; account++) {
            due("balance", x.balance(account), 0);
            for (int k = 0; k < 4; k++) {
                due("cell", x.cell(account, k), 0);
            }
        }
        due("deploy(0)", x.deploy(0), -1);
        due("put(0, 1)", x.put(0, 1), 1);
    }

    private static void promise2() {
        ContractEngine x = new ContractEngine(100);
        for (int op : new int[] {-1, 24, 25, Integer.MIN_VALUE, Integer.MAX_VALUE}) {
            due("put(" + op + ", 0)", x.put(op, 0), -1);
        }
        for (int op = 0; op < 24; op++) {
            due("put(" + op + ")", x.put(op, op * 1000003), op + 1);
            due("put(24, 0)", x.put(24, 0), -1);
        }
        due("put, the 25th", x.put(0, 0), -1);
        due("put, the 25th again", x.put(23, 5), -1);
        due("deploy(5)", x.deploy(5), 24);
        due("put behind deploy", x.put(0, 0), 1);

        for (int b : new int[] {0, 1, -1, 400, Integer.MIN_VALUE, Integer.MAX_VALUE}) {
            ContractEngine y = new ContractEngine(100);
            program(y, 0, PUSH, b, RETURN, b);
            due("call", y.call(0, 0, 0, 2), 0);
            due("PUSH " + b, y.result(), b);
        }

        // 24 pending: the refused one has left no trace in the program.
        ContractEngine z = new ContractEngine(100);
        for (int i = 0; i < 11; i++) {
            z.put(PUSH, i);
            z.put(14, 0);
        }
        z.put(PUSH, 77);
        z.put(RETURN, 0);
        due("put", z.put(PUSH, 5), -1);
        due("deploy(0)", z.deploy(0), 24);
        due("call", z.call(0, 0, 0, 100), 0);
        due("result()", z.result(), 77);
        due("used()", z.used(), 24);
    }

    private static void promise3() {
        ContractEngine x = new ContractEngine(100);
        for (int account : NO_ACCOUNTS) {
            due("put", x.put(PUSH, 0), 1);
            due("deploy(" + account + ")", x.deploy(account), -1);
            due("deploy(0), nothing pending any more", x.deploy(0), -1);
        }
        for (int account = 0; account < 6; account++) {
            program(x, account, PUSH, 10 + account, RETURN, 0);
            due("deploy again", x.deploy(account), -1);
        }
        for (int account = 0; account < 6; account++) {
            due("call", x.call(account, 0, 0, 10), 0);
            due("result()", x.result(), 10 + account);
        }
        // A new program, shorter or longer, takes the place of the old one; balance and cells stay.
        keeper(x, 2);
        due("call", x.call(2, 30, 8, 100), 0);
        program(x, 2, PUSH, 4);
        due("balance(2)", x.balance(2), 30);
        due("cell(2, 0)", x.cell(2, 0), 8);
        due("call: the old tail is gone", x.call(2, 0, 0, 100), 3);
        program(x, 2, LOAD, 0, PUSH, 1, ADD, 0, RETURN, 0);
        due("call", x.call(2, 0, 0, 100), 0);
        due("result()", x.result(), 9);
        due("deploy refused changes nothing", x.deploy(2), -1);
        due("call", x.call(2, 0, 0, 100), 0);
        due("result()", x.result(), 9);
        due("version() is not changed by deploy", x.version(), 9);
    }

    private static void promise4() {
        ContractEngine x = new ContractEngine(100);
        program(x, 0, ARG, 0, LOG, 6, ARG, 0, STORE, 0, ARG, 0, RETURN, 0);
        program(x, 1, ARG, 0, LOG, 6, ARG, 0, REVERT, 0);
        due("call OK", x.call(0, 7, 5, 100), 0);
        due("balance(0)", x.balance(0), 7);
        for (int account : NO_ACCOUNTS) {
            due("call(" + account + ")", x.call(account, 1, 1, 10), -1);
        }
        for (int energy : new int[] {-1, 101, Integer.MIN_VALUE, Integer.MAX_VALUE}) {
            due("energy " + energy, x.call(0, 1, 1, energy), -1);
        }
        due("REFUSED goes before DENIED", x.call(0, -1, 1, 101), -1);
        // Nothing has changed by those.
        due("result()", x.result(), 5);
        due("used()", x.used(), 16);
        due("calls()", x.calls(), 1);
        due("events()", x.events(), 1);
        due("version()", x.version(), 1);
        due("balance(0)", x.balance(0), 7);

        due("DENIED: amount -1", x.call(0, -1, 1, 100), 4);
        due("result()", x.result(), 0);
        due("used()", x.used(), 0);
        due("calls()", x.calls(), 0);
        due("events() stay", x.events(), 1);
        due("event(0, 2) stays", x.event(0, 2), 5);
        due("version()", x.version(), 1);

        due("REVERTED", x.call(1, 3, 9, 100), 1);
        due("result()", x.result(), 9);
        due("events() begin anew", x.events(), 0);
        due("balance(1)", x.balance(1), 0);
        due("version()", x.version(), 1);

        due("OK", x.call(0, 0, 2, 100), 0);
        due("OUT", x.call(0, 0, 2, 15), 2);
        due("events()", x.events(), 0);
        due("OK with just enough", x.call(0, 0, 3, 16), 0);
        due("cell(0, 0)", x.cell(0, 0), 3);
        program(x, 3, RETURN, 0);
        due("FAULT", x.call(3, 0, 0, 1), 3);
        due("OUT before FAULT", x.call(3, 0, 0, 0), 2);
        due("no program, no energy", x.call(5, 12, 0, 0), 0);
        due("balance(5)", x.balance(5), 12);
    }

    private static void mostMoney() {
        ContractEngine x = new ContractEngine(100);
        due("amount MIN", x.call(5, Integer.MIN_VALUE, 0, 0), 4);
        due("amount above the most", x.call(5, 1000000001, 0, 0), 4);
        due("amount MAX", x.call(5, Integer.MAX_VALUE, 0, 0), 4);
        due("amount at the most", x.call(5, 1000000000, 0, 0), 0);
        due("balance(5)", x.balance(5), 1000000000);
        due("one more", x.call(5, 1, 0, 0), 4);
        due("MAX more: the sum would wrap", x.call(5, Integer.MAX_VALUE, 0, 0), 4);
        due("0 more", x.call(5, 0, 0, 0), 0);
        due("balance(5)", x.balance(5), 1000000000);
        due("version()", x.version(), 2);
    }

    private static void promise5() {
        ContractEngine x = new ContractEngine(100);
        program(x, 0, ARG, 0, RETURN, 0);
        program(x, 1, ARG, 0, REVERT, 0);
        program(x, 2, PUSH, 0, PUSH, 0, PUSH, 44, SEND, 0, PUSH, 5, RETURN, 0);
        program(x, 3, PUSH, 5);
        for (int arg : new int[] {0, 1, -1, Integer.MIN_VALUE, Integer.MAX_VALUE}) {
            x.call(0, 0, arg, 10);
            due("result() of OK", x.result(), arg);
            x.call(1, 0, arg, 10);
            due("result() of REVERTED", x.result(), arg);
        }
        x.call(2, 0, 0, 100);
        due("result(): messages have none", x.result(), 5);
        x.call(9, 0, 0, 10);
        due("result() behind REFUSED", x.result(), 5);
        x.call(3, 0, 0, 10);
        due("result() of FAULT", x.result(), 0);
        x.call(0, 0, 3, 10);
        x.call(0, 0, 3, 1);
        due("result() of OUT", x.result(), 0);
        x.call(0, 0, 3, 10);
        x.call(4, 0, 3, 10);
        due("result() without a program", x.result(), 0);
        x.call(0, 0, 3, 10);
        x.call(0, -1, 3, 10);
        due("result() of DENIED", x.result(), 0);
    }

    private static void promise6() {
        ContractEngine x = new ContractEngine(100);
        program(x, 0, PUSH, 1, PUSH, 2, ADD, 0, RETURN, 0);
        x.call(0, 0, 0, 50);
        due("used() of OK", x.used(), 4);
        x.call(0, 0, 0, 3);
        due("used() of OUT", x.used(), 3);
        x.call(0, 0, 0, 101);
        due("used() behind REFUSED", x.used(), 3);
        program(x, 1, PUSH, 1);
        x.call(1, 0, 0, 50);
        due("used() of FAULT", x.used(), 50);
        program(x, 2, PUSH, 1, REVERT, 0);
        x.call(2, 0, 0, 50);
        due("used() of REVERTED", x.used(), 2);
        x.call(5, 0, 0, 50);
        due("used() without a program", x.used(), 0);
        x.call(2, 0, 0, 50);
        x.call(2, -1, 0, 50);
        due("used() of DENIED", x.used(), 0);

        // The message runs account 0 once more.
        program(x, 3, PUSH, 0, PUSH, 0, PUSH, 0, SEND, 0, PUSH, 0, RETURN, 0);
        x.call(3, 0, 0, 50);
        due("used() with a message", x.used(), 10 + 4);
    }

    private static void promise6Refund() {
        ContractEngine x = new ContractEngine(100);
        // Three instructions of cost 1 and a STORE into a cell that is not warm.
        program(x, 0, ARG, 0, STORE, 0, PUSH, 1, RETURN, 0);
        x.call(0, 0, 0, 50);
        due("0 into 0: no refund", x.used(), 11);
        x.call(0, 0, 5, 50);
        due("5 into 0: no refund", x.used(), 11);
        x.call(0, 0, 6, 50);
        due("6 into 5: no refund", x.used(), 11);
        x.call(0, 0, 0, 50);
        due("0 into 6: a quarter of 11, cut, is 2", x.used(), 9);
        due("the refund was not left to the call", x.call(0, 0, 7, 10), 2);
        program(x, 0, ARG, 0, STORE, 0, PUSH, 1, PUSH, 1, PUSH, 1, PUSH, 1, PUSH, 1, RETURN, 0);
        x.call(0, 0, 1, 50);
        x.call(0, 0, 0, 50);
        due("a quarter of 15, cut, is 3", x.used(), 12);
        program(x, 0, ARG, 0, STORE, 0, PUSH, 1, PUSH, 1, PUSH, 1, PUSH, 1, PUSH, 1, 14, 0, RETURN, 0);
        x.call(0, 0, 1, 50);
        x.call(0, 0, 0, 50);
        due("a quarter of 16 is 4", x.used(), 12);
        program(x, 0, ARG, 0, STORE, 0, PUSH, 1, PUSH, 1, PUSH, 1, PUSH, 1, 14, 0, 14, 0, 14, 0, 14, 0, PUSH, 2, RETURN, 0);
        x.call(0, 0, 1, 50);
        x.call(0, 0, 0, 50);
        due("a quarter of 19 is 4", x.used(), 15);
        // Twice from not 0 to 0 in one call: 1 + 8, then 1 + 3 three times, then 12 more.
        program(x, 1, PUSH, 9, STORE, 4, PUSH, 0, STORE, 4, PUSH, 9, STORE, 4, PUSH, 0, STORE, 4,
            PUSH, 1, PUSH, 1, PUSH, 1, PUSH, 1, PUSH, 1, 14, 0, 14, 0, 14, 0, 14, 0, 14, 0, PUSH, 1, RETURN, 0);
        x.call(1, 0, 0, 100);
        due("two refunds", x.used(), 33 - 8);
        keeper(x, 3);
        x.call(3, 0, 1, 100);
        program(x, 3, PUSH, 0, STORE, 0, PUSH, 1, REVERT, 0);
        x.call(3, 0, 0, 100);
        due("no refund if it was not OK", x.used(), 11);
        due("cell(3, 0)", x.cell(3, 0), 1);
    }

    private static void promise7() {
        ContractEngine x = new ContractEngine(200);
        program(x, 1, PUSH, 1, REVERT, 0);
        // Calls account 1 (undone), account 5 (no program), account 7 (none) and account 5 with too much.
        program(x, 0, PUSH, 1, PUSH, 0, PUSH, 0, CALL, 0, PUSH, 5, PUSH, 0, PUSH, 0, CALL, 0,
            14, 0, 14, 0, 14, 0, 14, 0, PUSH, 7, PUSH, 0, PUSH, 0, CALL, 0, PUSH, 5, PUSH, 99, PUSH, 0, CALL, 0, RETURN, 0);
        due("call", x.call(0, 0, 0, 200), 0);
        due("calls()", x.calls(), 3);
        x.call(6, 0, 0, 0);
        due("calls() behind REFUSED", x.calls(), 3);
        x.call(5, 0, 0, 0);
        due("calls() without a program", x.calls(), 1);
        x.call(1, 0, 0, 50);
        due("calls() of REVERTED", x.calls(), 1);
        x.call(1, -1, 0, 50);
        due("calls() of DENIED", x.calls(), 0);
        program(x, 2, PUSH, 5, PUSH, 0, PUSH, 0, SEND, 0, PUSH, 1, PUSH, 0, PUSH, 0, SEND, 0,
            PUSH, 5, PUSH, 1, PUSH, 0, SEND, 0, PUSH, 0, RETURN, 0);
        x.call(2, 0, 0, 100);
        due("calls() with messages, the third one denied", x.calls(), 3);
        // The first call is OUT behind a call: that one counts.
        program(x, 3, PUSH, 5, PUSH, 0, PUSH, 0, CALL, 0, RETURN, 0);
        due("call", x.call(3, 0, 0, 11), 2);
        due("calls() of OUT", x.calls(), 2);
    }

    private static void promises8And9() {
        ContractEngine x = new ContractEngine(400);
        // Counts down in cell 0 from the argument, each time with an event: 9 before the loop, 16 each time
        // (without the last JUMP), 2 behind it, and a refund of 4 for the 0 in the end.
        program(x, 0, ARG, 0, STORE, 0, LOAD, 0, LOG, 41, LOAD, 0, PUSH, 1, 9, 0, 13, 0, STORE, 0, 17, 11, 16, 2, PUSH, 3, RETURN, 0);
        for (int many : new int[] {1, 19, 20, 21, 22}) {
            due("call with " + many, x.call(0, 0, many, 400), 0);
            int kept = many > 20 ? 20 : many;
            due("events()", x.events(), kept);
            due("used()", x.used(), 9 + many * 16 - 1 + 2 - 4);
            for (int k = 0; k < kept; k++) {
                due("event(" + k + ", 0)", x.event(k, 0), 0);
                due("event(" + k + ", 1)", x.event(k, 1), 41);
                due("event(" + k + ", 2)", x.event(k, 2), many - k);
                due("event(" + k + ", 3)", x.event(k, 3), 0);
                due("event(" + k + ", -1)", x.event(k, -1), 0);
            }
            for (int k : new int[] {-1, kept, 20, 21, Integer.MIN_VALUE, Integer.MAX_VALUE}) {
                for (int which = -1; which < 4; which++) {
                    due("event(" + k + ", " + which + ")", x.event(k, which), 0);
                }
            }
        }
        due("event(0, MIN)", x.event(0, Integer.MIN_VALUE), 0);
        due("event(0, MAX)", x.event(0, Integer.MAX_VALUE), 0);
        // Account, number and value of events of two accounts, the number being any int.
        program(x, 4, PUSH, -8, LOG, Integer.MIN_VALUE, PUSH, 1, RETURN, 0);
        program(x, 3, PUSH, 7, LOG, 70, PUSH, 4, PUSH, 0, PUSH, 0, CALL, 0, LOG, Integer.MAX_VALUE, PUSH, 0, RETURN, 0);
        due("call", x.call(3, 0, 0, 100), 0);
        int[][] list = {{3, 70, 7}, {4, Integer.MIN_VALUE, -8}, {3, Integer.MAX_VALUE, 1}};
        due("events()", x.events(), 3);
        for (int k = 0; k < 3; k++) {
            for (int which = 0; which < 3; which++) {
                due("event(" + k + ", " + which + ")", x.event(k, which), list[k][which]);
            }
        }
        x.call(3, 0, 0, 401);
        due("events() behind REFUSED", x.events(), 3);
        x.call(3, -5, 0, 100);
        due("events() behind DENIED", x.events(), 3);
        x.back(1);
        due("events() behind back", x.events(), 3);
        x.call(5, 0, 0, 0);
        due("events() of a call without any", x.events(), 0);
        due("event(0, 1)", x.event(0, 1), 0);
    }

    private static void promises10And11() {
        ContractEngine x = new ContractEngine(400);
        for (int account = 0; account < 6; account++) {
            program(x, account, ARG, 0, STORE, 0, ARG, 0, PUSH, 1, ADD, 0, STORE, 5, ARG, 0, PUSH, 2, ADD, 0, STORE, -2,
                ARG, 0, PUSH, 3, ADD, 0, STORE, Integer.MAX_VALUE, PUSH, 0, RETURN, 0);
            due("call", x.call(account, 1000 + account, 100 * account, 400), 0);
        }
        for (int account = 0; account < 6; account++) {
            due("balance(" + account + ")", x.balance(account), 1000 + account);
            for (int k = 0; k < 4; k++) {
                due("cell(" + account + ", " + k + ")", x.cell(account, k), 100 * account + k);
            }
            for (int k : new int[] {-1, 4, 5, Integer.MIN_VALUE, Integer.MAX_VALUE}) {
                due("cell(" + account + ", " + k + ")", x.cell(account, k), 0);
            }
        }
        for (int account : NO_ACCOUNTS) {
            due("balance(" + account + ")", x.balance(account), 0);
            for (int k = -1; k < 6; k++) {
                due("cell(" + account + ", " + k + ")", x.cell(account, k), 0);
            }
        }
    }

    private static void promise12() {
        ContractEngine x = new ContractEngine(100);
        long empty = 1;
        for (int i = 0; i < 30; i++) {
            empty *= 31;
        }
        due("digest(0) at first", x.digest(0), empty);
        due("digest(1) at first", x.digest(1), 0);
        due("digest(-1) at first", x.digest(-1), 0);
        x.call(0, 1, 0, 0);
        long first = 32;
        for (int i = 0; i < 29; i++) {
            first *= 31;
        }
        due("digest(0): the balance goes first", x.digest(0), first);
        due("digest(1)", x.digest(1), empty);
        long[] digests = new long[12];
        keeper(x, 3);
        for (int i = 0; i < 12; i++) {
            due("call", x.call(3, i, i % 3 == 0 ? Integer.MIN_VALUE + i : -i, 100), 0);
            digests[i] = digestNow(x);
            for (int n = 0; n <= 6 && n <= i; n++) {
                due("digest(" + n + ")", x.digest(n), digests[i - n]);
            }
        }
        for (int n : new int[] {-1, 7, 8, Integer.MIN_VALUE, Integer.MAX_VALUE}) {
            due("digest(" + n + ")", x.digest(n), 0);
        }
        due("call OUT", x.call(3, 1, 1, 1), 2);
        due("digest(0)", x.digest(0), digests[11]);
        x.back(2);
        due("digest(0)", x.digest(0), digests[9]);
        due("digest(4)", x.digest(4), digests[5]);
        due("digest(5)", x.digest(5), 0);
    }

    private static void promise13() {
        ContractEngine x = new ContractEngine(100);
        keeper(x, 2);
        for (int i = 1; i <= 9; i++) {
            due("call", x.call(2, 10, i, 100), 0);
            for (int n = 0; n <= 8; n++) {
                boolean there = n <= i && n <= 6;
                due("past(" + n + ", 2, 0)", x.past(n, 2, 0), there ? i - n : 0);
                due("past(" + n + ", 2, 4)", x.past(n, 2, 4), there ? 10 * (i - n) : 0);
                due("past(" + n + ", 1, 4)", x.past(n, 1, 4), 0);
                due("past(" + n + ", 2, 1)", x.past(n, 2, 1), 0);
            }
        }
        for (int n : new int[] {-1, 7, Integer.MIN_VALUE, Integer.MAX_VALUE}) {
            due("past(" + n + ", 2, 4)", x.past(n, 2, 4), 0);
        }
        for (int account : NO_ACCOUNTS) {
            for (int k = -1; k < 6; k++) {
                due("past(0, " + account + ", " + k + ")", x.past(0, account, k), 0);
                due("past(3, " + account + ", " + k + ")", x.past(3, account, k), 0);
            }
        }
        for (int k : new int[] {-1, 5, 6, Integer.MIN_VALUE, Integer.MAX_VALUE}) {
            due("past(0, 2, " + k + ")", x.past(0, 2, k), 0);
            due("past(2, 1, " + k + ")", x.past(2, 1, k), 0);
            due("past(2, 2, " + k + ")", x.past(2, 2, k), 0);
        }
        for (int k = 0; k < 4; k++) {
            program(x, 4, ARG, 0, STORE, k, PUSH, 0, RETURN, 0);
            x.call(4, 0, 50 + k, 100);
            due("past(0, 4, " + k + ")", x.past(0, 4, k), 50 + k);
            due("past(1, 4, " + k + ")", x.past(1, 4, k), 0);
        }
    }

    private static void promise14() {
        ContractEngine x = new ContractEngine(100);
        due("back(1) at first", x.back(1), -1);
        due("back(0) at first", x.back(0), -1);
        program(x, 1, ARG, 0, STORE, 0, ARG, 0, LOG, 3, ARG, 0, RETURN, 0);
        for (int i = 1; i <= 10; i++) {
            x.call(1, 1, i * i, 100);
        }
        for (int n : new int[] {0, -1, 7, Integer.MIN_VALUE, Integer.MAX_VALUE}) {
            due("back(" + n + ")", x.back(n), -1);
        }
        due("version()", x.version(), 10);
        due("kept()", x.kept(), 6);
        due("cell(1, 0)", x.cell(1, 0), 100);
        due("back(2)", x.back(2), 8);
        due("version()", x.version(), 8);
        due("kept()", x.kept(), 4);
        due("balance(1)", x.balance(1), 8);
        due("cell(1, 0)", x.cell(1, 0), 64);
        due("past(4, 1, 0)", x.past(4, 1, 0), 16);
        due("back(5)", x.back(5), -1);
        // Events and answers stay, and so does the program.
        due("result()", x.result(), 100);
        due("used()", x.used(), 16);
        due("calls()", x.calls(), 1);
        due("events()", x.events(), 1);
        due("event(0, 2)", x.event(0, 2), 100);
        due("call", x.call(1, 1, -4, 100), 0);
        due("version()", x.version(), 9);
        due("kept()", x.kept(), 5);
        due("cell(1, 0)", x.cell(1, 0), -4);
        due("balance(1)", x.balance(1), 9);
        due("past(1, 1, 0)", x.past(1, 1, 0), 64);
        due("back(5)", x.back(5), 4);
        due("kept()", x.kept(), 0);
        due("cell(1, 0)", x.cell(1, 0), 16);
        due("digest(0)", x.digest(0), digestNow(x));
        due("back(1)", x.back(1), -1);
        due("digest(1)", x.digest(1), 0);
        x.put(PUSH, 1);
        due("call", x.call(1, 1, 3, 100), 0);
        due("back(1)", x.back(1), 4);
        due("put: pending stays", x.put(PUSH, 2), 2);
        // All six at once.
        for (int i = 0; i < 8; i++) {
            x.call(1, 0, 1000 + i, 100);
        }
        due("back(6)", x.back(6), 6);
        due("cell(1, 0)", x.cell(1, 0), 1001);
        due("kept()", x.kept(), 0);
    }

    private static void promises15And16() {
        ContractEngine x = new ContractEngine(100);
        program(x, 1, PUSH, 1, REVERT, 0);
        program(x, 2, PUSH, 1);
        for (int i = 1; i <= 9; i++) {
            due("OK makes a version, even an equal one", x.call(0, 0, 0, 0), 0);
            due("version()", x.version(), i);
            due("kept()", x.kept(), i > 6 ? 6 : i);
            due("REVERTED", x.call(1, 0, 0, 9), 1);
            due("FAULT", x.call(2, 0, 0, 9), 3);
            due("OUT", x.call(2, 0, 0, 0), 2);
            due("DENIED", x.call(0, -1, 0, 0), 4);
            due("REFUSED", x.call(0, 0, 0, -1), -1);
            due("version()", x.version(), i);
            due("kept()", x.kept(), i > 6 ? 6 : i);
        }
        // One version for a call and all its messages.
        program(x, 3, PUSH, 5, PUSH, 2, PUSH, 0, SEND, 0, PUSH, 5, PUSH, 3, PUSH, 0, SEND, 0, PUSH, 0, RETURN, 0);
        due("call", x.call(3, 20, 0, 100), 0);
        due("version()", x.version(), 10);
        due("past(0, 5, 4)", x.past(0, 5, 4), 5);
        due("past(0, 3, 4)", x.past(0, 3, 4), 15);
        due("past(1, 5, 4)", x.past(1, 5, 4), 0);
        due("digest(0)", x.digest(0), digestNow(x));
        due("back(3)", x.back(3), 7);
        due("version()", x.version(), 7);
        due("kept()", x.kept(), 3);
        due("back(4)", x.back(4), -1);
        due("kept()", x.kept(), 3);
    }

    public static void main(String[] args) {
        about("constants", PromisesTest::constants);
        about("promise 1", PromisesTest::promise1);
        about("promise 2", PromisesTest::promise2);
        about("promise 3", PromisesTest::promise3);
        about("promise 4", PromisesTest::promise4);
        about("promise 4, most money", PromisesTest::mostMoney);
        about("promise 5", PromisesTest::promise5);
        about("promise 6", PromisesTest::promise6);
        about("promise 6, refund", PromisesTest::promise6Refund);
        about("promise 7", PromisesTest::promise7);
        about("promises 8 and 9", PromisesTest::promises8And9);
        about("promises 10 and 11", PromisesTest::promises10And11);
        about("promise 12", PromisesTest::promise12);
        about("promise 13", PromisesTest::promise13);
        about("promise 14", PromisesTest::promise14);
        about("promises 15 and 16", PromisesTest::promises15And16);
        end();
    }
}
