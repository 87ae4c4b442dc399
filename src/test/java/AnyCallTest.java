import java.util.NoSuchElementException;
import java.util.Random;

/** Any call with any arguments in any state: only the document's exceptions, and none changes anything. */
public final class AnyCallTest {
    private static final Checks CHECKS = new Checks();
    private static final int[] EDGES = {Integer.MIN_VALUE, -65536, -2, -1, 0, 1, 2, 3, 4, 5, 6, 7, 8, 14, 15, 16, 17,
        63, 64, 255, 256, 2048, 65535, 65536, 1000000000, 1000000001, Integer.MAX_VALUE};
    private static final String[] WORDS = {"policy", "drop", "accept", "reject", "in", "proto", "from", "to", "sport",
        "dport", "state", "new", "established", "related", "invalid", "tcp", "udp", "icmp", "0", "1-3", "6", "255",
        "70000", "10.0.0.0/8", "1.2.3.4", "1.2.3.4-200.0.0.1", ";", ";", ";", ",", "-", "/", ".", "?", "1.2", "x9"};

    public static void main(String[] args) {
        Random random = new Random(3);
        for (int round = 0; round < 6000; round++) {
            GateHouse gate = new GateHouse();
            // Few calls are watched, for watching makes many more, and a gate is used for 512 at most.
            int ahead = random.nextInt(30);
            for (int k = 0; k < ahead + 3; k++) {
                oneCall(gate, random, k >= ahead);
            }
        }
        CHECKS.end();
    }

    private static int edge(Random random) {
        return random.nextInt(3) == 0 ? random.nextInt() : EDGES[random.nextInt(EDGES.length)];
    }

    /** An argument that is often as it should be. */
    private static int upTo(Random random, int most) {
        return random.nextInt(4) == 0 ? edge(random) : random.nextInt(most + 1);
    }

    private static void oneCall(GateHouse gate, Random random, boolean watched) {
        String before = watched ? snapshot(gate) : "";
        int which = random.nextInt(22);
        int[] a = new int[8];
        int[] tops = {3, 3, 17, 3, 3, 6, 6, 3};
        for (int k = 0; k < 8; k++) {
            a[k] = upTo(random, tops[k]);
        }
        try {
            call(gate, random, which, a);
            return;
        } catch (IndexOutOfBoundsException | IllegalArgumentException | NoSuchElementException thrown) {
            String name = thrown.getClass().getSimpleName();
            boolean own = thrown.getStackTrace()[0].getClassName().equals("GateHouse");
            CHECKS.same("thrown by call " + which + ": " + name, own && mayThrow(which, name), true);
        }
        if (watched) {
            CHECKS.same("what call " + which + " leaves", snapshot(gate), before);
        }
    }

    private static boolean mayThrow(int which, String name) {
        switch (name) {
            case "IndexOutOfBoundsException": return which >= 3 && which <= 10;
            case "NoSuchElementException": return which == 5 || which == 9 || which >= 11 && which <= 14;
            case "IllegalArgumentException": return which == 8 || which >= 15 && which <= 17;
            default: return false;
        }
    }

    private static void call(GateHouse gate, Random random, int which, int[] a) {
        switch (which) {
            case 0: gate.feed(a[0], a[1], edge(random), edge(random), edge(random)); break;
            case 1: gate.end(upTo(random, 100)); break;
            case 2: feedText(gate, random); break;
            case 3: gate.load(a[0]); break;
            case 4: gate.rules(a[0]); break;
            case 5: gate.rule(a[0], a[1] - 1, upTo(random, 14)); break;
            case 6: gate.write(a[0]); break;
            case 7: gate.alike(a[0], a[1]); break;
            case 8: gate.match(a[0], a[1], a[2], a[3], a[4], a[5], a[6], a[7]); break;
            case 9: gate.shadowed(a[0], a[1]); break;
            case 10: gate.least(a[0], a[1]); break;
            case 11: gate.found(a[5]); break;
            case 12: gate.octet(edge(random)); break;
            case 13: gate.connection(a[0], a[5]); break;
            case 14: gate.pack(); break;
            case 15: gate.datagram(a[0]); break;
            case 16: case 17: gate.packet(a[0], new int[] {6, 17, 1, a[2]}[a[1] & 3], a[3], a[4], a[5], a[6], a[7]); break;
            case 18: gate.now(upTo(random, 1000)); break;
            case 19: gate.room(upTo(random, 5)); break;
            case 20: gate.count(edge(random)); break;
            default: feedPacked(gate);
        }
    }

    private static void feedText(GateHouse gate, Random random) {
        StringBuilder text = new StringBuilder();
        int words = random.nextInt(60);
        for (int k = 0; k < words; k++) {
            text.append(WORDS[random.nextInt(WORDS.length)]).append(random.nextBoolean() ? " " : "");
        }
        gate.end(0);
        Checks.feed(gate, Checks.octets(random.nextInt(3) == 0 ? "policy accept; drop in 1; accept proto 6;" : text.toString()));
    }

    private static void feedPacked(GateHouse gate) {
        gate.end(0);
        Checks.feed(gate, Checks.out(gate));
    }

    private static String snapshot(GateHouse gate) {
        StringBuilder all = new StringBuilder();
        for (int what = 0; what < 8; what++) {
            all.append(gate.count(what)).append(' ');
        }
        all.append(gate.fault()).append(' ');
        for (int list = 0; list < 4; list++) {
            all.append(gate.rules(list)).append(' ').append(gate.rule(list, GateHouse.NONE, 0)).append(' ');
            all.append(gate.rule(list, GateHouse.NONE, 14)).append(' ');
        }
        for (int i = 0; i < gate.count(4); i++) {
            all.append(gate.connection(i, 5)).append(' ').append(gate.connection(i, 8)).append(' ');
        }
        return all.toString();
    }
}
