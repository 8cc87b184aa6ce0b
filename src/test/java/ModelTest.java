import java.util.ArrayList;
import java.util.HashSet;
import java.util.List;
import java.util.Set;

/** Made-up programs and calls, every answer compared with a model that is written as the document speaks: by recursion and copies. */
public final class ModelTest {
    private static final int OBJECTS = 20000;
    private static final int MOST_CALLS = 512;

    /** Balances, cells and all else that is undone with a call. */
    private static final class World {
        int[] balance = new int[6];
        int[][] cell = new int[6][4];
        List<int[]> events = new ArrayList<>();
        List<int[]> messages = new ArrayList<>();
        Set<Integer> warm = new HashSet<>();
        int refund = 0;

        World copy() {
            World w = new World();
            w.balance = balance.clone();
            for (int i = 0; i < 6; i++) {
                w.cell[i] = cell[i].clone();
            }
            w.events = new ArrayList<>(events);
            w.messages = new ArrayList<>(messages);
            w.warm = new HashSet<>(warm);
            w.refund = refund;
            return w;
        }

        long digest() {
            long h = 1;
            for (int i = 0; i < 6; i++) {
                h = h * 31 + balance[i];
                for (int k = 0; k < 4; k++) {
                    h = h * 31 + cell[i][k];
                }
            }
            return h;
        }
    }

    private record End(int how, int result, int left) { }

    private static final class Model {
        final int limit;
        final int[][][] programs = new int[6][][];
        World world = new World();
        List<World> history = new ArrayList<>();
        int version = 0;
        int result = 0;
        int used = 0;
        int calls = 0;
        List<int[]> events = new ArrayList<>();

        Model(int limit) {
            this.limit = Math.max(20, Math.min(400, limit));
        }

        int call(int account, int amount, int arg, int energy) {
            if (account < 0 || account > 5 || energy < 0 || energy > limit) {
                return -1;
            }
            result = 0;
            used = 0;
            calls = 0;
            World before = world.copy();
            world.warm.clear();
            world.refund = 0;
            world.events.clear();
            world.messages.clear();
            End end = run(-1, account, amount, arg, energy, 0);
            if (end.how == 4) {
                return 4;
            }
            int left = end.left;
            while (!world.messages.isEmpty()) {
                int[] m = world.messages.remove(0);
                End of = run(m[3], m[0], m[1], m[2], left, 0);
                seen("message " + of.how);
                left = of.left;
            }
            result = end.result;
            int all = energy - left;
            used = end.how == 0 ? all - Math.min(world.refund, all / 4) : all;
            if (end.how == 0 && world.refund > 0) {
                seen(world.refund > all / 4 ? "refund cut" : "refund whole");
            }
            events = new ArrayList<>(world.events);
            if (end.how == 0) {
                history.add(0, before);
                if (history.size() > 6) {
                    history.remove(6);
                }
                version++;
            }
            return end.how;
        }

        End run(int caller, int account, int amount, int arg, int energy, int underWay) {
            boolean tooMuch = caller >= 0 && amount > world.balance[caller];
            if (amount < 0 || tooMuch || (long) world.balance[account] + amount > 1000000000L || underWay == 5) {
                if (underWay == 5) {
                    seen("five under way");
                }
                return new End(4, 0, energy);
            }
            calls++;
            World before = world.copy();
            if (caller >= 0) {
                world.balance[caller] -= amount;
            }
            world.balance[account] += amount;
            End end = programs[account] == null ? new End(0, 0, energy) : interpret(caller, account, amount, arg, energy, underWay + 1);
            if (end.how != 0) {
                if (underWay > 0) {
                    seen("undone inside, " + end.how);
                }
                world = before;
            }
            return end;
        }

        End interpret(int caller, int self, int amount, int arg, int energy, int underWay) {
            int[][] program = programs[self];
            List<Integer> stack = new ArrayList<>();
            int at = 0;
            while (true) {
                int op = program[at][0];
                int b = program[at][1];
                boolean warm = world.warm.contains(self * 4 + (b & 3));
                int cost = switch (op) {
                    case 5 -> 3;
                    case 6 -> warm ? 2 : 5;
                    case 7 -> warm ? 3 : 8;
                    case 18 -> 8;
                    case 21 -> 4;
                    case 23 -> 5;
                    default -> 1;
                };
                if (energy < cost) {
                    return new End(2, 0, 0);
                }
                energy -= cost;
                int takes = "000001012222211201311103".charAt(op) - '0';
                int adds = "111111101111120200200010".charAt(op) - '0';
                if (stack.size() < takes || stack.size() - takes + adds > 6) {
                    return new End(3, 0, 0);
                }
                int[] t = new int[3];
                for (int i = takes - 1; i >= 0; i--) {
                    t[i] = stack.remove(stack.size() - 1);
                }
                if (op == 19 || op == 20) {
                    return new End(op - 19, t[0], energy);
                }
                int next = op == 16 || (op == 17 && t[0] == 0) ? b : at + 1;
                if (next < 0 || next >= program.length) {
                    return new End(3, 0, 0);
                }
                at = next;
                switch (op) {
                    case 0 -> stack.add(b);
                    case 1 -> stack.add(arg);
                    case 2 -> stack.add(caller);
                    case 3 -> stack.add(self);
                    case 4 -> stack.add(amount);
                    case 5 -> stack.add(t[0] < 0 || t[0] > 5 ? 0 : world.balance[t[0]]);
                    case 6 -> {
                        world.warm.add(self * 4 + (b & 3));
                        stack.add(world.cell[self][b & 3]);
                    }
                    case 7 -> {
                        world.warm.add(self * 4 + (b & 3));
                        if (t[0] == 0 && world.cell[self][b & 3] != 0) {
                            world.refund += 4;
                        }
                        world.cell[self][b & 3] = t[0];
                    }
                    case 8 -> stack.add(t[0] + t[1]);
                    case 9 -> stack.add(t[0] - t[1]);
                    case 10 -> stack.add(t[0] * t[1]);
                    case 11 -> stack.add(t[0] < t[1] ? 1 : 0);
                    case 12 -> stack.add(t[0] == t[1] ? 1 : 0);
                    case 13 -> {
                        stack.add(t[0]);
                        stack.add(t[0]);
                    }
                    case 15 -> {
                        stack.add(t[1]);
                        stack.add(t[0]);
                    }
                    case 18 -> {
                        End end = new End(4, 0, 0);
                        if (t[0] >= 0 && t[0] <= 5) {
                            int given = b > 0 && energy > b ? b : energy;
                            end = run(self, t[0], t[1], t[2], given, underWay);
                            energy -= given - end.left;
                        }
                        stack.add(end.result);
                        stack.add(end.how == 0 ? 1 : 0);
                    }
                    case 21 -> {
                        if (world.events.size() < 20) {
                            world.events.add(new int[] {self, b, t[0]});
                        } else {
                            seen("event too many");
                        }
                    }
                    case 22 -> stack.add(energy);
                    case 23 -> {
                        if (world.messages.size() < 6 && t[0] >= 0 && t[0] <= 5) {
                            world.messages.add(new int[] {t[0], t[1], t[2], self});
                        } else if (world.messages.size() == 6) {
                            seen("message too many");
                        }
                    }
                    default -> { }
                }
            }
        }

        int back(int n) {
            if (n < 1 || n > history.size()) {
                return -1;
            }
            for (int i = 0; i < n; i++) {
                world = history.remove(0);
            }
            version -= n;
            return version;
        }

        World ago(int n) {
            return n < 0 || n > history.size() ? null : n == 0 ? world : history.get(n - 1);
        }

        long digest(int n) {
            World w = ago(n);
            return w == null ? 0 : w.digest();
        }

        int past(int n, int account, int k) {
            World w = ago(n);
            if (w == null || account < 0 || account > 5 || k < 0 || k > 4) {
                return 0;
            }
            return k == 4 ? w.balance[account] : w.cell[account][k];
        }
    }

    private static final String[] MUST_BE_SEEN = {"call 0", "call 1", "call 2", "call 3", "call 4", "call -1", "message 0", "message 1",
        "message 2", "message 3", "message 4", "undone inside, 1", "undone inside, 2", "undone inside, 3", "five under way",
        "event too many", "message too many", "refund cut", "refund whole", "gone back"};
    private static final Set<String> SEEN = new HashSet<>();

    private static long seed = 20261115L;
    private static int wrong = 0;
    private static String run = "";
    private static int callsMade = 0;

    private static void seen(String what) {
        SEEN.add(what);
    }

    /** A number of 0 .. below - 1, the same ones in every run of this test. */
    private static int pick(int below) {
        seed = seed * 6364136223846793005L + 1442695040888963407L;
        return (int) ((seed >>> 33) % below);
    }

    private static void due(String what, long got, long want) {
        callsMade++;
        if (got != want) {
            wrong++;
            if (wrong <= 20) {
                System.out.println(run + what + " answered " + got + ", due is " + want);
            }
        }
    }

    private static int anyInt() {
        int[] edges = {0, 1, -1, 5, 6, 400, 1000000000, 1000000001, Integer.MIN_VALUE, Integer.MAX_VALUE};
        return pick(3) > 0 ? pick(12) - 3 : edges[pick(edges.length)];
    }

    private static void add(List<int[]> code, int op, int b) {
        code.add(new int[] {op, b});
    }

    private static void addValue(List<int[]> code) {
        switch (pick(8)) {
            case 0 -> add(code, 1, 0);
            case 1 -> add(code, 6, pick(5) - 1);
            case 2 -> add(code, pick(3) + 2, 0);
            case 3 -> add(code, 22, 0);
            case 4 -> add(code, 0, 0);
            default -> add(code, 0, pick(4) == 0 ? anyInt() : pick(7));
        }
    }

    private static void addOther(List<int[]> code, int op, int b) {
        add(code, 0, pick(12) == 0 ? anyInt() : pick(6));
        if (pick(4) == 0) {
            addValue(code);
        } else {
            add(code, 0, pick(3));
        }
        addValue(code);
        add(code, op, b);
    }

    private static void addPiece(List<int[]> code) {
        int[] energies = {0, 0, 0, -1, 5, 12, 25, 40, 90, Integer.MAX_VALUE};
        switch (pick(12)) {
            case 0, 1 -> {
                addValue(code);
                add(code, 7, pick(6) - 1);
            }
            case 2 -> {
                add(code, 0, 0);
                add(code, 7, pick(2));
            }
            case 3, 4 -> {
                addValue(code);
                add(code, 21, pick(100));
            }
            case 5, 6 -> {
                addOther(code, 18, energies[pick(energies.length)]);
                if (pick(3) > 0) {
                    add(code, pick(2) == 0 ? 14 : 7, 0);
                    add(code, pick(2) == 0 ? 14 : 7, 1);
                }
            }
            case 7, 8 -> addOther(code, 23, 0);
            case 9 -> {
                addValue(code);
                addValue(code);
                add(code, 8 + pick(5), 0);
            }
            case 10 -> {
                addValue(code);
                add(code, 17, pick(6) == 0 ? anyInt() : pick(24));
            }
            default -> {
                int[] plain = {5, 13, 14, 15, 16, pick(24)};
                add(code, plain[pick(plain.length)], pick(8) == 0 ? anyInt() : pick(24));
            }
        }
    }

    private static int[][] madeUpProgram() {
        List<int[]> code = new ArrayList<>();
        int wanted = 2 + pick(20);
        // Some programs are made to fill the lists: they go round and round.
        int kind = pick(10);
        if (kind == 0) {
            add(code, 1, 0);
            add(code, 21, 7);
            add(code, 6, 0);
            add(code, 0, 1);
            add(code, 8, 0);
            add(code, 13, 0);
            add(code, 7, 0);
            add(code, 0, 15 + pick(15));
            add(code, 11, 0);
            add(code, 17, 11);
            add(code, 16, 0);
        }
        while (code.size() < wanted) {
            addPiece(code);
            if (kind == 1 && code.size() > 3 && pick(4) == 0) {
                add(code, 16, 0);
            }
        }
        if (pick(12) > 0) {
            addValue(code);
            add(code, pick(4) == 0 ? 20 : 19, 0);
        }
        while (code.size() > 24) {
            code.remove(pick(code.size() - 2));
        }
        return code.toArray(new int[0][]);
    }

    private static void deploySome(ContractEngine x, Model m, int account) {
        int[][] code = madeUpProgram();
        for (int i = 0; i < code.length; i++) {
            due("put", x.put(code[i][0], code[i][1]), i + 1);
        }
        due("deploy", x.deploy(account), code.length);
        m.programs[account] = code;
    }

    private static void callSome(ContractEngine x, Model m) {
        int account = pick(25) == 0 ? anyInt() : pick(6);
        int amount = pick(15) == 0 ? anyInt() : pick(8);
        int arg = anyInt();
        int energy = pick(3) > 0 ? m.limit : pick(m.limit + 2) - (pick(30) == 0 ? 3 : 0);
        int how = m.call(account, amount, arg, energy);
        seen("call " + how);
        due("call(" + account + ", " + amount + ", " + arg + ", " + energy + ")", x.call(account, amount, arg, energy), how);
    }

    private static void compare(ContractEngine x, Model m) {
        due("result()", x.result(), m.result);
        due("used()", x.used(), m.used);
        due("calls()", x.calls(), m.calls);
        due("events()", x.events(), m.events.size());
        for (int k = 0; k < m.events.size(); k++) {
            int which = pick(3);
            due("event(" + k + ", " + which + ")", x.event(k, which), m.events.get(k)[which]);
        }
        due("event behind the last", x.event(m.events.size(), 0), 0);
        due("version()", x.version(), m.version);
        due("kept()", x.kept(), m.history.size());
        int ago = pick(9) - 1;
        due("digest(0)", x.digest(0), m.digest(0));
        due("digest(" + ago + ")", x.digest(ago), m.digest(ago));
        int account = pick(8) - 1;
        int k = pick(7) - 1;
        due("past(" + ago + ", " + account + ", " + k + ")", x.past(ago, account, k), m.past(ago, account, k));
        due("balance(" + account + ")", x.balance(account), m.past(0, account, 4));
        due("cell(" + account + ", " + k + ")", x.cell(account, k), k == 4 ? 0 : m.past(0, account, k));
    }

    private static void oneObject(int number) {
        int[] limits = {400, 400, 400, 500, 200, 100, 20, 0};
        int limit = limits[pick(limits.length)];
        ContractEngine x = new ContractEngine(limit);
        Model m = new Model(limit);
        callsMade = 0;
        for (int account = 0; account < 6; account++) {
            if (pick(8) > 0) {
                deploySome(x, m, account);
            }
        }
        for (int turn = 0; callsMade < MOST_CALLS - 80; turn++) {
            run = "object " + number + ", turn " + turn + ": ";
            int kind = pick(20);
            if (kind == 0) {
                deploySome(x, m, pick(6));
            } else if (kind == 1) {
                int n = pick(8) - 1;
                int version = m.back(n);
                if (version >= 0) {
                    seen("gone back");
                }
                due("back(" + n + ")", x.back(n), version);
            } else {
                callSome(x, m);
            }
            compare(x, m);
        }
    }

    public static void main(String[] args) {
        for (int number = 0; number < OBJECTS; number++) {
            oneObject(number);
        }
        for (String what : MUST_BE_SEEN) {
            if (!SEEN.contains(what)) {
                wrong++;
                System.out.println("the made-up runs never came to: " + what);
            }
        }
        System.out.println(wrong == 0 ? "all answers are as due" : wrong + " answers are not as due");
        if (wrong != 0) {
            System.exit(1);
        }
    }
}
