/** What the tests share: the document's names, the counting of wrong answers, and the writing of programs. */
abstract class Checks {
    static final int PUSH = 0, ARG = 1, CALLER = 2, SELF = 3, VALUE = 4, HAS = 5, LOAD = 6, STORE = 7, ADD = 8, SUB = 9, MUL = 10,
        LESS = 11, SAME = 12, DUP = 13, DROP = 14, SWAP = 15, JUMP = 16, JZERO = 17, CALL = 18, RETURN = 19, REVERT = 20, LOG = 21,
        LEFT = 22, SEND = 23;
    static final int OK = 0, REVERTED = 1, OUT = 2, FAULT = 3, DENIED = 4, REFUSED = -1;
    static final int MIN = Integer.MIN_VALUE, MAX = Integer.MAX_VALUE, MOST_MONEY = 1000000000;
    static final int[] NO_ACCOUNTS = {-1, 6, 7, MIN, MAX};

    /** What each instruction costs (in a cell that is not warm), takes and adds. */
    static final int[] COST = {1, 1, 1, 1, 1, 3, 5, 8, 1, 1, 1, 1, 1, 1, 1, 1, 1, 1, 8, 1, 1, 4, 1, 5};
    static final int[] TAKES = {0, 0, 0, 0, 0, 1, 0, 1, 2, 2, 2, 2, 2, 1, 1, 2, 0, 1, 3, 1, 1, 1, 0, 3};
    static final int[] ADDS = {1, 1, 1, 1, 1, 1, 1, 0, 1, 1, 1, 1, 1, 2, 0, 2, 0, 0, 2, 0, 0, 0, 1, 0};

    static int wrong = 0;
    static String part = "";

    static void due(String what, long got, long want) {
        if (got != want) {
            wrong++;
            System.out.println(part + ": " + what + " answered " + got + ", due is " + want);
        }
    }

    static void same(String what, String got, String want) {
        if (!got.equals(want)) {
            wrong++;
            System.out.println(part + ": " + what + ":\n  " + got + "\n  due is\n  " + want);
        }
    }

    /** One part of a test, named by what it is about: a promise, or a sentence of the document. */
    static void about(String what, Runnable test) {
        part = what;
        test.run();
    }

    static void end() {
        System.out.println(wrong == 0 ? "all answers are as due" : wrong + " answers are not as due");
        if (wrong != 0) {
            System.exit(1);
        }
    }

    /** Deploys a program told as op, b, op, b, .. */
    static void program(ContractEngine x, int account, int... code) {
        for (int i = 0; i < code.length; i += 2) {
            due("put", x.put(code[i], code[i + 1]), i / 2 + 1);
        }
        due("deploy(" + account + ")", x.deploy(account), code.length / 2);
    }

    static int[] code(int... code) {
        return code;
    }

    static int[] join(int[]... parts) {
        int length = 0;
        for (int[] piece : parts) {
            length += piece.length;
        }
        int[] all = new int[length];
        int at = 0;
        for (int[] piece : parts) {
            for (int value : piece) {
                all[at++] = value;
            }
        }
        return all;
    }

    /** A call of another account, for 11 energy and what that uses; its two answers stay on the stack. */
    static int[] callOf(int account, int amount, int arg, int b) {
        return code(PUSH, account, PUSH, amount, PUSH, arg, CALL, b);
    }

    /** The same with both answers dropped: 13 energy. */
    static int[] callAndDrop(int account, int amount, int arg, int b) {
        return join(callOf(account, amount, arg, b), code(DROP, 0, DROP, 0));
    }

    /** A message, for 8 energy. */
    static int[] sendTo(int account, int amount, int arg) {
        return code(PUSH, account, PUSH, amount, PUSH, arg, SEND, 0);
    }

    static int[] pushes(int many) {
        int[] code = new int[2 * many];
        for (int i = 0; i < many; i++) {
            code[2 * i + 1] = 1;
        }
        return code;
    }

    /** Jumps to the next instruction, which only cost 1 energy each; the first of them is instruction number at. */
    static int[] idle(int at, int many) {
        int[] code = new int[2 * many];
        for (int i = 0; i < many; i++) {
            code[2 * i] = JUMP;
            code[2 * i + 1] = at + i + 1;
        }
        return code;
    }

    /** Balances and cells in one line. */
    static String state(ContractEngine x) {
        StringBuilder all = new StringBuilder();
        for (int account = 0; account < 6; account++) {
            all.append(" [").append(x.balance(account)).append(':');
            for (int k = 0; k < 4; k++) {
                all.append(' ').append(x.cell(account, k));
            }
            all.append(']');
        }
        return all.toString();
    }

    static String events(ContractEngine x) {
        StringBuilder all = new StringBuilder();
        for (int k = 0; k < x.events(); k++) {
            all.append(" (").append(x.event(k, 0)).append(' ').append(x.event(k, 1)).append(' ').append(x.event(k, 2)).append(')');
        }
        return all.toString();
    }

    /** Everything that can be asked without changing anything; some 50 calls and 3 for each event. */
    static String everything(ContractEngine x) {
        StringBuilder all = new StringBuilder();
        all.append(x.result()).append(' ').append(x.used()).append(' ').append(x.calls()).append(events(x)).append(state(x));
        all.append(" version ").append(x.version()).append(" kept ").append(x.kept());
        for (int n = 0; n <= 7; n++) {
            all.append(' ').append(x.digest(n));
        }
        return all.toString();
    }
}
