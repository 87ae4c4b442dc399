import java.util.Arrays;
import java.util.Random;

/** Promises 5, 18, 19 and 21: datagrams, their faults, packets that tell of others, and packing. */
public final class DatagramTest extends Datagrams {
    private static final Checks CHECKS = new Checks();
    private static final int RELATED = 9;
    private static final int INVALID = 13;

    public static void main(String[] args) {
        goodOnes();
        headerFaults();
        bodyFaults();
        whatFaultsLeave();
        fields();
        related();
        notTold();
        packing();
        packedFlags();
        packedSums();
        CHECKS.end();
    }

    private static GateHouse open() {
        return Checks.gateWith("policy accept;");
    }

    private static void good(String what, byte[] d, int due) {
        GateHouse gate = open();
        CHECKS.same(what, send(gate, 2, d), due);
        CHECKS.same("fault of " + what, gate.fault(), 0);
        CHECKS.same("tape behind " + what, gate.count(0), 0);
        CHECKS.same("came: " + what, gate.count(5), 1);
    }

    private static void bad(String what, byte[] d, int place, int kind) {
        GateHouse gate = open();
        CHECKS.same(what, send(gate, 2, d), -1 - place);
        CHECKS.same("fault of " + what, gate.fault(), kind);
        CHECKS.same("tape behind " + what, gate.count(0), 0);
        CHECKS.same("came: " + what, gate.count(5), 0);
        CHECKS.same("told: " + what, gate.rule(0, GateHouse.NONE, 14), 0);
    }

    private static void goodOnes() {
        for (int options = 0; options <= 10; options++) {
            good("tcp", datagram(options, 6, 1, 2, tcp(3, 4, 2, options, options)), 1);
            good("udp", datagram(options, 17, -1, -2, udp(3, 4, options)), 1);
            good("icmp", datagram(options, 1, 1, 2, icmp(8, 0, 9, new byte[options])), 1);
            good("other", datagram(options, 50, 1, 2, new byte[options]), 1);
        }
        byte[] noSum = datagram(0, 17, 1, 2, udp(3, 4, 5));
        good("udp without a sum", with(with(noSum, 26, 0), 27, 0), 1);
        good("the longest", datagram(0, 17, 1, 2, udp(3, 4, 2072)), 1);
        // The highest two bits of byte 6 say nothing of pieces.
        good("not to be cut", summed(with(noSum, 6, 64)), 1);
        good("the highest bit", summed(with(noSum, 6, 192)), 1);
    }

    private static void headerFaults() {
        byte[] d = datagram(1, 17, 1, 2, udp(3, 4, 5));
        bad("nothing", new byte[0], 0, 1);
        bad("19 bytes", Arrays.copyOf(d, 19), 19, 1);
        bad("19 bytes of another kind", new byte[19], 19, 1);
        bad("20 bytes 0", new byte[20], 0, 2);
        for (int first : new int[] {0, 68, 80, 96, 53, 255}) {
            bad("first byte " + first, with(d, 0, first), 0, 2);
        }
        bad("one byte more", Arrays.copyOf(d, d.length + 1), 2, 3);
        bad("one byte less", Arrays.copyOf(d, d.length - 1), 2, 3);
        byte[] shortOne = datagram(0, 50, 1, 2, new byte[3]);
        bad("a header beyond the end", with(shortOne, 0, 70), 2, 3);
        for (int k = 4; k < 24; k++) {
            bad("a wrong byte " + k, with(d, k, d[k] ^ 16), 10, 4);
        }
        bad("a wrong sum of options", with(d, 1, 4), 10, 4);
        bad("more pieces", summed(with(d, 6, 32)), 6, 5);
        bad("a later piece", summed(with(d, 7, 1)), 6, 5);
        bad("a far later piece", summed(with(d, 6, 1)), 6, 5);
        bad("a piece of what may not be cut", summed(with(d, 6, 64 + 16)), 6, 5);
        bad("the first of these", with(d, 6, 32), 10, 4);
        bad("a piece of another protocol", summed(with(datagram(0, 50, 1, 2, new byte[3]), 7, 9)), 6, 5);
    }

    private static void bodyFaults() {
        bad("tcp of 19", datagram(0, 6, 1, 2, Arrays.copyOf(tcp(3, 4, 2, 0, 0), 19)), 20, 6);
        bad("tcp of nothing", datagram(2, 6, 1, 2, new byte[0]), 28, 6);
        bad("tcp of 4 rows", summed(with(datagram(0, 6, 1, 2, tcp(3, 4, 2, 0, 0)), 32, 64)), 20, 6);
        bad("tcp of 6 rows", summed(with(datagram(0, 6, 1, 2, tcp(3, 4, 2, 0, 3)), 32, 96)), 20, 6);
        good("tcp of 6 rows", summed(with(datagram(0, 6, 1, 2, tcp(3, 4, 2, 0, 4)), 32, 96)), 1);
        bad("udp of 7", datagram(0, 17, 1, 2, Arrays.copyOf(udp(3, 4, 0), 7)), 20, 6);
        bad("udp too short", summed(with(datagram(1, 17, 1, 2, udp(3, 4, 5)), 29, 12)), 24, 6);
        bad("udp too long", summed(with(datagram(1, 17, 1, 2, udp(3, 4, 5)), 29, 14)), 24, 6);
        bad("icmp of 7", datagram(3, 1, 1, 2, new byte[7]), 32, 6);
        for (int k = 24; k < 29; k++) {
            bad("tcp sum " + k, with(datagram(0, 6, 1, 2, tcp(3, 4, 2, 0, 1)), k, 99), 36, 7);
            bad("icmp sum " + k, with(datagram(1, 1, 1, 2, icmp(8, 0, 9, new byte[1])), k, 99), 26, 7);
        }
        bad("tcp sum of the last byte", with(datagram(0, 6, 1, 2, tcp(3, 4, 2, 0, 1)), 40, 99), 36, 7);
        bad("udp sum of the last byte", with(datagram(1, 17, 1, 2, udp(3, 4, 5)), 36, 99), 30, 7);
        bad("icmp all 0", with(with(datagram(0, 1, 1, 2, icmp(0, 0, 0, new byte[0])), 22, 0), 23, 0), 22, 7);
        // Both ends are in the sum, in the header's and in the body's: only the header's is mended.
        byte[] moved = with(datagram(0, 6, 1, 2, tcp(3, 4, 2, 0, 0)), 15, 7);
        pair(moved, 10, 0);
        pair(moved, 10, 65535 - sum(moved, 0, 20, 0));
        bad("tcp of another end", moved, 36, 7);
        byte[] turned = with(datagram(0, 17, 1, 2, udp(3, 4, 0)), 19, 3);
        pair(turned, 10, 0);
        pair(turned, 10, 65535 - sum(turned, 0, 20, 0));
        bad("udp of another end", turned, 26, 7);
    }

    private static void whatFaultsLeave() {
        GateHouse gate = open();
        send(gate, 0, new byte[3]);
        CHECKS.same("kind", gate.fault(), 1);
        Checks.feed(gate, datagram(0, 17, 1, 2, udp(3, 4, 5)));
        for (int in : new int[] {-1, 4, Integer.MAX_VALUE, Integer.MIN_VALUE}) {
            CHECKS.refused("in " + in, IllegalArgumentException.class, () -> gate.datagram(in));
        }
        CHECKS.same("tape stays", gate.count(0), 33);
        CHECKS.same("kind stays", gate.fault(), 1);
        CHECKS.same("then it comes", gate.datagram(3), 1);
        CHECKS.same("no fault", gate.fault(), 0);
        Checks.load(gate, 1, "?");
        CHECKS.same("kind of a load", gate.fault(), 1);
        send(gate, 0, datagram(0, 50, 1, 2, new byte[3]));
        CHECKS.same("no fault", gate.fault(), 0);
    }

    private static void fields() {
        GateHouse gate = Checks.gateWith("accept in 2; reject;");
        CHECKS.same("by another way", send(gate, 1, datagram(0, 17, 1, 2, udp(3, 4, 5))), 2);
        send(gate, 2, datagram(4, 17, 0xfffefdfc, 0x80000001, udp(65535, 4, 5)));
        CHECKS.same("udp", Checks.connection(gate, 0, 0), "17 4294901244 2147483649 65535 4 0 0 0 30");
        send(gate, 2, datagram(4, 6, 1, 2, tcp(60000, 443, 2, 1, 5)));
        CHECKS.same("tcp", Checks.connection(gate, 1, 0), "6 1 2 60000 443 1 0 0 120");
        send(gate, 2, datagram(4, 1, 1, 2, icmp(8, 200, 43210, new byte[2])));
        CHECKS.same("icmp", Checks.connection(gate, 2, 0), "1 1 2 2248 43210 0 0 0 30");
        byte[] body = {1, 2, 3, 4, 5, 6, 7, 8};
        send(gate, 2, datagram(4, 47, 1, 2, body));
        CHECKS.same("other", Checks.connection(gate, 3, 0), "47 1 2 0 0 0 0 0 600");
        CHECKS.same("flags", send(gate, 2, datagram(0, 6, 2, 1, tcp(443, 60000, 18, 0, 0))), 5);
        CHECKS.same("a phase on", gate.connection(1, 5), 2);
        CHECKS.same("other flags", send(gate, 2, datagram(0, 6, 1, 9, tcp(1, 1, 3, 0, 0))), 13);
        CHECKS.same("PSH and URG", send(gate, 2, datagram(0, 6, 1, 9, tcp(1, 1, 2 + 8 + 32, 0, 0))), 1);
    }

    private static byte[] report(int type, byte[] inner) {
        return datagram(type % 3, 1, 77, 88, icmp(type, 1, 4242, inner));
    }

    private static void related() {
        for (int options = 0; options <= 10; options += 5) {
            byte[][] forth = {datagram(options, 6, 1, 2, tcp(3, 4, 2, 0, 0)), datagram(options, 17, 1, 2, udp(3, 4, 0)),
                datagram(options, 1, 1, 2, icmp(8, 0, 9, new byte[0])), datagram(options, 50, 1, 2, new byte[8])};
            byte[][] back = {datagram(options, 6, 2, 1, tcp(4, 3, 4, 0, 0)), datagram(options, 17, 2, 1, udp(4, 3, 0)),
                datagram(options, 1, 2, 1, icmp(0, 5, 9, new byte[0])), datagram(options, 50, 2, 1, new byte[8])};
            for (int k = 0; k < 4; k++) {
                GateHouse gate = open();
                send(gate, 0, forth[k]);
                String before = Checks.connection(gate, 0, 0);
                for (int type = 0; type < 20; type++) {
                    boolean tells = type == 3 || type == 4 || type == 5 || type == 11 || type == 12;
                    int due = tells ? RELATED : type == 8 ? 1 : INVALID;
                    CHECKS.same("report " + type, send(gate, 0, report(type, beginning(forth[k], 8))), due);
                    CHECKS.same("report of an answer", send(gate, 0, report(type, beginning(back[k], 8))), due);
                }
                CHECKS.same("a report steps nothing", Checks.connection(gate, 0, 0), before);
                CHECKS.same("nor begins anything but an echo", gate.count(4), 2);
            }
        }
        GateHouse gate = Checks.gateWith("reject state related; accept;");
        byte[] begun = datagram(0, 17, 1, 2, udp(3, 4, 0));
        send(gate, 0, begun);
        CHECKS.same("rejected", send(gate, 0, report(3, beginning(begun, 8))), 10);
        CHECKS.same("told", gate.rule(0, 0, 14), 1);
    }

    private static void notTold() {
        GateHouse gate = open();
        byte[] begun = datagram(1, 17, 1, 2, udp(3, 4, 20));
        byte[] plain = datagram(0, 17, 1, 2, udp(3, 4, 20));
        send(gate, 0, begun);
        CHECKS.same("whole", send(gate, 0, report(3, begun)), RELATED);
        CHECKS.same("8 bytes", send(gate, 0, report(3, beginning(begun, 8))), RELATED);
        CHECKS.same("7 bytes", send(gate, 0, report(3, beginning(begun, 7))), INVALID);
        CHECKS.same("8 bytes", send(gate, 0, report(3, beginning(plain, 8))), RELATED);
        CHECKS.same("7 bytes", send(gate, 0, report(3, beginning(plain, 7))), INVALID);
        CHECKS.same("nothing", send(gate, 0, report(3, new byte[0])), INVALID);
        CHECKS.same("first byte 68", send(gate, 0, report(3, with(plain, 0, 68))), INVALID);
        CHECKS.same("first byte 80", send(gate, 0, report(3, with(plain, 0, 80))), INVALID);
        // Sums, lengths and pieces of what is told of are not looked at.
        CHECKS.same("wrong sum", send(gate, 0, report(3, with(with(plain, 10, 1), 6, 33))), RELATED);
        CHECKS.same("another port", send(gate, 0, report(3, with(plain, 23, 9))), INVALID);
        CHECKS.same("another end", send(gate, 0, report(3, with(plain, 15, 9))), INVALID);
        CHECKS.same("another protocol", send(gate, 0, report(3, with(plain, 9, 6))), INVALID);
        gate.now(30);
        CHECKS.same("of what has gone", send(gate, 0, report(3, plain)), INVALID);
    }

    private static String hex(byte[] bytes) {
        StringBuilder all = new StringBuilder();
        for (byte b : bytes) {
            all.append(String.format("%02x", b));
        }
        return all.toString();
    }

    private static void packed(String what, GateHouse gate, String due) {
        CHECKS.same("length of " + what, gate.pack(), due.length() / 2);
        CHECKS.same(what, hex(Checks.out(gate)), due);
    }

    private static void packing() {
        GateHouse gate = new GateHouse();
        gate.packet(3, 6, 0xc0a80001, 0x0a000002, 1234, 80, 63);
        packed("tcp", gate, "45000028000000004006" + "b025" + "c0a800010a000002" + "04d20050" + "0000000000000000"
                + "503f0000" + "dfd8" + "0000");
        gate.packet(0, 17, 0xc0a80001, 0x0a000002, 1234, 53, 63);
        packed("udp", gate, "4500001c000000004011" + "b026" + "c0a800010a000002" + "04d20035" + "0008" + "302c");
        gate.packet(0, 1, 0xc0a80001, 0x0a000002, 8 * 256 + 3, 0xbeef, 63);
        packed("icmp", gate, "4500001c000000004001" + "b036" + "c0a800010a000002" + "0803" + "390d" + "beef0000");
        gate.packet(0, 1, 0xc0a80001, 0x0a000002, 3, 0xbeef, 63);
        packed("icmp answer", gate, "4500001c000000004001" + "b036" + "c0a800010a000002" + "0003" + "410d" + "beef0000");
        gate.packet(0, 1, 0xc0a80001, 0x0a000002, 3 * 256, 0xbeef, 63);
        packed("icmp report", gate, "4500001c000000004001" + "b036" + "c0a800010a000002" + "0300" + "fcff" + "00000000");
        gate.packet(0, 255, 0xc0a80001, 0x0a000002, 7, 8, 63);
        packed("other", gate, "4500001400000000" + "40ff" + "af40" + "c0a800010a000002");
        Checks.feed(gate, new byte[5]);
        gate.datagram(0);
        packed("a fault is no packet", gate, "4500001400000000" + "40ff" + "af40" + "c0a800010a000002");
        send(gate, 0, datagram(5, 17, 0xc0a80001, 0x0a000002, udp(1234, 53, 99)));
        packed("shortest", gate, "4500001c000000004011" + "b026" + "c0a800010a000002" + "04d20035" + "0008" + "302c");
    }

    /** Only the lowest six bits of their byte are flags. */
    private static void packedFlags() {
        GateHouse gate = open();
        send(gate, 0, datagram(0, 6, 1, 2, tcp(3, 4, 42, 0, 0)));
        gate.pack();
        CHECKS.same("flags", gate.octet(33), 42);
        CHECKS.same("rows", gate.octet(32), 80);
    }

    /** What is packed comes again as a datagram that packs to the same. */
    private static void packedSums() {
        Random random = new Random(1);
        for (int round = 0; round < 300; round++) {
            GateHouse gate = open();
            int proto = new int[] {6, 17, 1, 50}[round % 4];
            int sport = random.nextInt(65536);
            gate.packet(0, proto, random.nextInt(), random.nextInt(), sport, random.nextInt(65536), 2);
            gate.pack();
            byte[] once = Checks.out(gate);
            CHECKS.same("comes again", send(gate, 0, once) >= 0, true);
            gate.pack();
            CHECKS.same("the same", hex(Checks.out(gate)), hex(once));
        }
        // The sum of UDP is never 0: SPORT is what makes it so.
        GateHouse gate = open();
        gate.packet(0, 17, 0, 0, 65535 - 17 - 16, 0, 0);
        gate.pack();
        CHECKS.same("udp sum", gate.octet(26) * 256 + gate.octet(27), 65535);
        gate.packet(0, 6, 0, 0, 65535 - 6 - 20 - 0x5002, 0, 2);
        gate.pack();
        CHECKS.same("tcp sum", gate.octet(36) * 256 + gate.octet(37), 0);
        Checks.feed(gate, Checks.out(gate));
        CHECKS.same("comes again", gate.datagram(0) >= 0, true);
    }
}
