import java.util.NoSuchElementException;
import java.util.Random;
import java.util.TreeSet;

/** Promises 10 to 14: what lists do, also held against going through all points that can matter. */
public final class ListsTest {
    private static final Checks CHECKS = new Checks();
    private static final long[] TOPS = {3, 255, 4294967295L, 4294967295L, 65535, 65535, 3};
    private static final String[] WORDS = {"in", "proto", "from", "to", "sport", "dport"};
    private static final String[] ACTIONS = {"drop", "accept", "reject"};

    public static void main(String[] args) {
        matching();
        wrongFields();
        shadows();
        alikes();
        leasts();
        wrongCalls();
        randomLists();
        fullLists();
        CHECKS.end();
    }

    private static void matching() {
        GateHouse gate = new GateHouse();
        Checks.load(gate, 2, "policy accept; drop in 1-2 proto 6 from 128.0.0.0-200.0.0.0 to 0.0.0.1 sport 5-6"
                + " dport 7-8 state new,invalid; reject proto 6; accept state related;");
        CHECKS.same("the first", gate.match(2, 1, 6, 0x80000000, 1, 5, 7, 0), 0);
        CHECKS.same("its last edges", gate.match(2, 2, 6, 0xc8000000, 1, 6, 8, 3), 0);
        int[][] off = {{0, 6, 0x80000000, 1, 5, 7, 0}, {3, 6, 0x80000000, 1, 5, 7, 0},
            {1, 6, 0x7fffffff, 1, 5, 7, 0}, {1, 6, 0xc8000001, 1, 5, 7, 0}, {1, 6, 0x80000000, 2, 5, 7, 0},
            {1, 6, 0x80000000, 1, 4, 7, 0}, {1, 6, 0x80000000, 1, 7, 7, 0}, {1, 6, 0x80000000, 1, 5, 6, 0},
            {1, 6, 0x80000000, 1, 5, 9, 0}, {1, 6, 0x80000000, 1, 5, 7, 1}, {1, 6, 0x80000000, 1, 5, 7, 2}};
        for (int[] p : off) {
            CHECKS.same("the second", gate.match(2, p[0], p[1], p[2], p[3], p[4], p[5], p[6]), 1);
        }
        CHECKS.same("the third", gate.match(2, 0, 7, 0, 0, 0, 0, 2), 2);
        CHECKS.same("the policy", gate.match(2, 0, 7, 0, 0, 0, 0, 1), GateHouse.NONE);
        CHECKS.same("of an empty list", gate.match(0, 3, 255, -1, -1, 65535, 65535, 3), GateHouse.NONE);
        CHECKS.same("no packet came", gate.count(5), 0);
        CHECKS.same("none was told", gate.rule(2, 0, 14), 0);
    }

    private static void wrongFields() {
        GateHouse gate = new GateHouse();
        Class<IllegalArgumentException> wrong = IllegalArgumentException.class;
        int[][] fields = {{-1, 0, 0, 0, 0}, {4, 0, 0, 0, 0}, {0, -1, 0, 0, 0}, {0, 256, 0, 0, 0}, {0, 0, -1, 0, 0},
            {0, 0, 65536, 0, 0}, {0, 0, 0, -1, 0}, {0, 0, 0, 65536, 0}, {0, 0, 0, 0, -1}, {0, 0, 0, 0, 4},
            {Integer.MIN_VALUE, 0, 0, 0, 0}, {0, 0, 0, 0, Integer.MAX_VALUE}};
        for (int[] f : fields) {
            CHECKS.refused("match", wrong, () -> gate.match(0, f[0], f[1], 0, 0, f[2], f[3], f[4]));
        }
        CHECKS.refused("match", IndexOutOfBoundsException.class, () -> gate.match(4, 0, 0, 0, 0, 0, 0, 0));
        CHECKS.refused("match", IndexOutOfBoundsException.class, () -> gate.match(-1, 9, 0, 0, 0, 0, 0, 0));
    }

    private static void shadows() {
        GateHouse gate = Checks.gateWith("drop from 0.0.0.0-127.255.255.255; drop from 128.0.0.0-255.255.255.254 in 0-1;"
                + "drop from 128.0.0.0/1 in 2-3; accept; reject to 1.2.3.4;");
        CHECKS.same("first", gate.shadowed(0, 0), false);
        CHECKS.same("first point", Checks.found(gate), "0 0 0 0 0 0 0");
        CHECKS.same("second", gate.shadowed(0, 1), false);
        CHECKS.same("second point", Checks.found(gate), "0 0 2147483648 0 0 0 0");
        CHECKS.same("third", gate.shadowed(0, 2), false);
        CHECKS.same("third point", Checks.found(gate), "2 0 2147483648 0 0 0 0");
        CHECKS.same("fourth", gate.shadowed(0, 3), false);
        CHECKS.same("fourth point", Checks.found(gate), "0 0 4294967295 0 0 0 0");
        CHECKS.same("as an int", gate.found(2), -1);
        CHECKS.same("fifth", gate.shadowed(0, 4), true);
        CHECKS.same("the point stays", Checks.found(gate), "0 0 4294967295 0 0 0 0");
        // The state is the last coordinate, though it stands in no order in the text.
        Checks.load(gate, 1, "drop state new,related dport 9; reject dport 9; drop dport 9-10;");
        CHECKS.same("behind states", gate.shadowed(1, 1), false);
        CHECKS.same("its point", Checks.found(gate), "0 0 0 0 0 9 1");
        CHECKS.same("behind both", gate.shadowed(1, 2), false);
        CHECKS.same("its point", Checks.found(gate), "0 0 0 0 0 10 0");
    }

    private static void alikes() {
        GateHouse gate = new GateHouse();
        CHECKS.same("empty ones", gate.alike(0, 1), true);
        Checks.load(gate, 1, "policy reject;");
        CHECKS.same("policies", gate.alike(0, 1), false);
        CHECKS.same("their point", Checks.found(gate), "0 0 0 0 0 0 0");
        CHECKS.same("one and the same", gate.alike(1, 1), true);
        Checks.load(gate, 0, "reject in 0-1; reject in 3; reject in 2 state new,established,related;"
                + "reject proto 1-255; reject proto 0 dport 0-65534; reject sport 1-65535; reject to 0.0.0.1/0;");
        CHECKS.same("a list that does what a policy does", gate.alike(0, 1), true);
        Checks.load(gate, 0, "reject in 0-1; reject in 3; reject in 2 state new,established,related;"
                + "reject proto 1-255; reject proto 0 dport 0-65534; reject sport 1-65535; accept to 255.255.255.255;"
                + "reject;");
        CHECKS.same("but at one point", gate.alike(1, 0), false);
        CHECKS.same("this one", Checks.found(gate), "2 0 0 4294967295 0 65535 3");
        // Other rules that tell the same action are alike.
        Checks.load(gate, 2, "accept sport 1-9; accept sport 10-20; drop sport 0;");
        Checks.load(gate, 3, "accept sport 5-20; accept sport 1-7;");
        CHECKS.same("other cuts", gate.alike(2, 3), true);
        CHECKS.same("the point stays", Checks.found(gate), "2 0 0 4294967295 0 65535 3");
    }

    private static void leasts() {
        GateHouse gate = Checks.gateWith("policy reject; accept in 1; drop in 1-2; accept in 2; reject in 3;");
        gate.packet(1, 50, 0, 0, 0, 0, 0);
        CHECKS.same("least", gate.least(0, 1), 2);
        CHECKS.same("what is left", Checks.written(gate, 1), "policy reject;\naccept in 1;\ndrop in 1-2;\n");
        CHECKS.same("told is not taken along", gate.rule(1, 0, 14), 0);
        CHECKS.same("the list itself stays", gate.rules(0), 4);
        CHECKS.same("and what it was told", gate.rule(0, 0, 14), 1);
        CHECKS.refused("no point was found", NoSuchElementException.class, () -> gate.found(0));
        CHECKS.same("least in its own place", gate.least(0, 0), 2);
        CHECKS.same("told goes then", gate.rule(0, 0, 14), 0);
        CHECKS.same("what is left", Checks.written(gate, 0), "policy reject;\naccept in 1;\ndrop in 1-2;\n");
        gate.packet(1, 50, 0, 0, 0, 0, 0);
        Checks.load(gate, 0, "accept in 1;");
        gate.least(0, 1);
        CHECKS.same("nor what a list that has gone was told", gate.rule(1, 0, 14), 0);
        // From the last one to the first one: of two that are the same the earlier one is left.
        Checks.load(gate, 2, "accept in 1 state new; accept in 1; accept in 1 state new;");
        CHECKS.same("least", gate.least(2, 3), 1);
        CHECKS.same("what is left", Checks.written(gate, 3), "policy drop;\naccept in 1;\n");
        Checks.load(gate, 2, "accept in 0-1; accept in 1-2; accept in 2-3;");
        CHECKS.same("least", gate.least(2, 3), 2);
        CHECKS.same("what is left", Checks.written(gate, 3), "policy drop;\naccept in 0-1;\naccept in 2-3;\n");
        Checks.load(gate, 2, "accept in 2-3; accept in 1-2; accept in 0-1; drop;");
        CHECKS.same("least", gate.least(2, 2), 2);
        CHECKS.same("what is left", Checks.written(gate, 2), "policy drop;\naccept in 2-3;\naccept in 0-1;\n");
        CHECKS.same("of nothing", gate.least(2, 1) + gate.least(1, 1), 4);
    }

    private static void wrongCalls() {
        GateHouse gate = Checks.gateWith("drop;");
        Class<IndexOutOfBoundsException> noList = IndexOutOfBoundsException.class;
        Class<NoSuchElementException> none = NoSuchElementException.class;
        for (int list : new int[] {-1, 4, Integer.MAX_VALUE, Integer.MIN_VALUE}) {
            CHECKS.refused("shadowed", noList, () -> gate.shadowed(list, 0) ? 1 : 0);
            CHECKS.refused("alike", noList, () -> gate.alike(list, 0) ? 1 : 0);
            CHECKS.refused("alike", noList, () -> gate.alike(0, list) ? 1 : 0);
            CHECKS.refused("alike", noList, () -> gate.alike(list, list) ? 1 : 0);
            CHECKS.refused("least", noList, () -> gate.least(list, 0));
            CHECKS.refused("least", noList, () -> gate.least(0, list));
        }
        for (int i : new int[] {-1, 1, 16, Integer.MAX_VALUE, Integer.MIN_VALUE}) {
            CHECKS.refused("shadowed", none, () -> gate.shadowed(0, i) ? 1 : 0);
        }
        CHECKS.refused("found", none, () -> gate.found(0));
        gate.shadowed(0, 0);
        CHECKS.same("found", gate.found(6), 0);
        for (int what : new int[] {-1, 7, Integer.MAX_VALUE, Integer.MIN_VALUE}) {
            CHECKS.refused("found", none, () -> gate.found(what));
        }
    }

    /** A list as read back from a gate: a row a rule (ranges, states, action), the policy last. */
    private static final class Model {
        final long[][] low;
        final long[][] high;
        final int[] states;
        final int[] actions;

        Model(GateHouse gate, int list) {
            int n = gate.rules(list);
            low = new long[n][6];
            high = new long[n][6];
            states = new int[n];
            actions = new int[n + 1];
            for (int i = 0; i < n; i++) {
                for (int f = 0; f < 6; f++) {
                    low[i][f] = Integer.toUnsignedLong(gate.rule(list, i, 2 + 2 * f));
                    high[i][f] = Integer.toUnsignedLong(gate.rule(list, i, 3 + 2 * f));
                }
                states[i] = gate.rule(list, i, 1);
                actions[i] = gate.rule(list, i, 0);
            }
            actions[n] = gate.rule(list, GateHouse.NONE, 0);
        }

        int first(long[] point, int without) {
            for (int i = 0; i < states.length; i++) {
                boolean all = (states[i] >> point[6] & 1) != 0 && (without >> i & 1) == 0;
                for (int f = 0; all && f < 6; f++) {
                    all = low[i][f] <= point[f] && point[f] <= high[i][f];
                }
                if (all) {
                    return i;
                }
            }
            return states.length;
        }

        int action(long[] point, int without) {
            return actions[first(point, without)];
        }
    }

    private interface Wanted {
        boolean is(long[] point);
    }

    /** The first of all points at which something can change that is as wanted, or null. */
    private static long[] firstPoint(Wanted wanted, Model... models) {
        long[][] values = new long[7][];
        for (int f = 0; f < 7; f++) {
            TreeSet<Long> all = new TreeSet<>();
            all.add(0L);
            for (Model m : models) {
                for (int i = 0; f < 6 && i < m.states.length; i++) {
                    all.add(m.low[i][f]);
                    all.add(m.high[i][f] + 1);
                }
            }
            for (long s = 0; f == 6 && s < 4; s++) {
                all.add(s);
            }
            long top = TOPS[f];
            values[f] = all.stream().mapToLong(v -> v).filter(v -> v <= top).toArray();
        }
        return firstFrom(0, new long[7], values, wanted);
    }

    private static long[] firstFrom(int f, long[] point, long[][] values, Wanted wanted) {
        if (f == 7) {
            return wanted.is(point) ? point : null;
        }
        for (long value : values[f]) {
            point[f] = value;
            if (firstFrom(f + 1, point, values, wanted) != null) {
                return point;
            }
        }
        return null;
    }

    private static String text(long[] point) {
        StringBuilder all = new StringBuilder();
        for (int f = 0; f < 7; f++) {
            all.append(f == 0 ? "" : " ").append(point[f]);
        }
        return all.toString();
    }

    private static String address(long a) {
        return (a >> 24) + "." + (a >> 16 & 255) + "." + (a >> 8 & 255) + "." + (a & 255);
    }

    private static String range(Random random, int f) {
        long unit = (TOPS[f] + 1) / 4;
        int first = random.nextInt(4);
        int last = first + random.nextInt(4 - first);
        long from = first * unit;
        long to = last * unit + unit - 1 - (random.nextInt(4) == 0 && unit > 1 ? 1 : 0);
        return f == 2 || f == 3 ? address(from) + "-" + address(to) : from + "-" + to;
    }

    private static String rule(Random random, int oneIn) {
        StringBuilder text = new StringBuilder(ACTIONS[random.nextInt(3)]);
        for (int f = 0; f < 6; f++) {
            if (random.nextInt(oneIn) == 0) {
                text.append(' ').append(WORDS[f]).append(' ').append(range(random, f));
            }
        }
        if (random.nextInt(oneIn) == 0) {
            text.append(random.nextBoolean() ? " state new,related" : " state established,related,invalid");
        }
        return text.append(';').toString();
    }

    private static String list(Random random, int rules, int oneIn) {
        StringBuilder text = new StringBuilder("policy " + ACTIONS[random.nextInt(3)] + ";");
        for (int i = 0; i < rules; i++) {
            text.append(rule(random, oneIn));
        }
        return text.toString();
    }

    private static void randomLists() {
        Random random = new Random(20261116);
        for (int round = 0; round < 400; round++) {
            GateHouse gate = new GateHouse();
            int oneIn = 2 + random.nextInt(3);
            String one = list(random, random.nextInt(6), oneIn);
            String other = beside(random, one, oneIn);
            Checks.load(gate, 0, one);
            Checks.load(gate, 1, other);
            Model a = new Model(gate, 0);
            Model b = new Model(gate, 1);
            againstShadows(gate, a, one);
            // What was asked before must not matter.
            gate.least(random.nextInt(2), 3);
            long[] due = firstPoint(p -> a.action(p, 0) != b.action(p, 0), a, b);
            CHECKS.same("alike " + one + " and " + other, gate.alike(0, 1), due == null);
            if (due != null) {
                CHECKS.same("point of " + one + " and " + other, Checks.found(gate), text(due));
            }
            againstLeast(gate, a, one);
        }
    }

    /** Another list, or often the first one with a rule more, or with one rule changed. */
    private static String beside(Random random, String one, int oneIn) {
        int way = random.nextInt(3);
        if (way == 0) {
            return list(random, random.nextInt(4), oneIn);
        }
        String[] parts = one.split(";");
        if (way == 1 || parts.length == 1) {
            return one + rule(random, oneIn);
        }
        String changed = rule(random, oneIn);
        parts[1 + random.nextInt(parts.length - 1)] = changed.substring(0, changed.length() - 1);
        return String.join(";", parts) + ";";
    }

    private static void againstShadows(GateHouse gate, Model a, String text) {
        for (int i = 0; i < a.states.length; i++) {
            int rule = i;
            long[] due = firstPoint(p -> a.first(p, 0) == rule, a);
            CHECKS.same("shadowed " + i + " of " + text, gate.shadowed(0, i), due == null);
            if (due != null) {
                CHECKS.same("point of " + i + " of " + text, Checks.found(gate), text(due));
            }
        }
    }

    private static void againstLeast(GateHouse gate, Model a, String text) {
        int without = 0;
        for (int i = a.states.length - 1; i >= 0; i--) {
            int tried = without | 1 << i;
            if (firstPoint(p -> a.action(p, 0) != a.action(p, tried), a) == null) {
                without = tried;
            }
        }
        int kept = a.states.length - Integer.bitCount(without);
        CHECKS.same("least of " + text, gate.least(0, 2), kept);
        int place = 0;
        for (int i = 0; i < a.states.length; i++) {
            for (int what = 0; what < 14 && (without >> i & 1) == 0; what++) {
                CHECKS.same("what is left of " + text, gate.rule(2, place, what), gate.rule(0, i, what));
            }
            place += 1 - (without >> i & 1);
        }
        CHECKS.same("policy of " + text, gate.rule(2, GateHouse.NONE, 0), gate.rule(0, GateHouse.NONE, 0));
        CHECKS.same("least is alike: " + text, gate.alike(2, 0), true);
    }

    /** Long lists of rules that tell many parts must not take long; what they say is held against match. */
    private static void fullLists() {
        Random random = new Random(7);
        for (int round = 0; round < 40; round++) {
            GateHouse gate = new GateHouse();
            StringBuilder text = new StringBuilder();
            int rules = 0;
            while (rules < 16 && text.length() < 1850) {
                text.append(rule(random, 1 + round % 2));
                rules++;
            }
            CHECKS.same("load", Checks.load(gate, 0, text.toString()), rules);
            int last = 0;
            for (int i = 0; i < rules; i++) {
                if (!gate.shadowed(0, i)) {
                    CHECKS.same("reached", gate.match(0, gate.found(0), gate.found(1), gate.found(2), gate.found(3),
                            gate.found(4), gate.found(5), gate.found(6)), i);
                    last = i;
                }
            }
            CHECKS.same("least", gate.least(0, 1) <= last + 1, true);
            CHECKS.same("alike", gate.alike(0, 1), true);
        }
    }
}
