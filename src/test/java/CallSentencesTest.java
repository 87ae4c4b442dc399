import java.util.Arrays;
import java.util.NoSuchElementException;

/**
 * Sentences of "What it is", of "A call that throws changes nothing" and of promises 1, 2, 3, 9 and 21 that name
 * a boundary case: each has a method of its own, which names it first.
 */
public final class CallSentencesTest extends Datagrams {
    private static final Checks CHECKS = new Checks();
    private static final int NONE = GateHouse.NONE;
    private static final int LEAST = Integer.MIN_VALUE;
    private static final int MOST = Integer.MAX_VALUE;

    public static void main(String[] args) {
        allItsCalls();
        throwingCalls();
        newObject();
        feedOrder();
        feedFull();
        endWithin();
        endTakesOff();
        endRefused();
        octetOfOut();
        octetRefused();
        countsAtFirst();
        countsOfMany();
        countsRefused();
        CHECKS.end();
    }

    private static void allItsCalls() {
        CHECKS.sentence("What it is", "An object is used for at most 512 calls after it has been made");
        GateHouse gate = new GateHouse();
        // "policy accept;" and six bytes more: three calls.
        gate.feed(0x706f6c69, 0x63792061, 0x63636570, 0x743b0000, 0);
        gate.end(14);
        gate.load(0);
        for (int call = 4; call <= 510; call++) {
            int due = call == 4 ? 1 : 5;
            int got = call % 2 == 0 ? gate.packet(0, 17, 1, 2, 3, 4, 0) : gate.packet(0, 17, 2, 1, 4, 3, 0);
            CHECKS.same("call " + call, got, due);
        }
        CHECKS.same("call 511", gate.rule(0, NONE, 14), 507);
        CHECKS.same("call 512", gate.count(5), 507);
    }

    /** A gate in which everything has been used: lists, tape, OUT, a point, packets, connections and a fault. */
    private static GateHouse used() {
        GateHouse gate = Checks.gateWith("policy accept; reject in 3; drop in 2 dport 9;");
        Checks.load(gate, 1, "policy reject; accept proto 1-20 state new; drop;");
        Checks.load(gate, 2, "drop ?");
        gate.now(7);
        gate.room(3);
        gate.packet(0, 6, 1, 2, 3, 4, 2);
        gate.packet(0, 17, 1, 2, 3, 4, 0);
        gate.packet(3, 17, -1, 2, 3, 4, 0);
        gate.shadowed(0, 1);
        Checks.feed(gate, Checks.octets("accept sport 7;"));
        gate.write(1);
        return gate;
    }

    /** All that can be asked; it is changed by some of the questions, so it is asked only once. */
    private static String everything(GateHouse gate) {
        StringBuilder all = new StringBuilder();
        for (int what = 0; what < 8; what++) {
            all.append(gate.count(what)).append(' ');
        }
        all.append(gate.fault()).append(' ').append(new String(Checks.out(gate))).append(Checks.found(gate));
        for (int i = 0; i < gate.count(4); i++) {
            all.append('\n').append(Checks.connection(gate, i, 0));
        }
        for (int list = 0; list < 4; list++) {
            for (int i = NONE; i < gate.rules(list); i++) {
                all.append(' ').append(gate.rule(list, i, 14));
            }
            all.append('\n').append(Checks.written(gate, list));
        }
        all.append(gate.pack());
        for (int k = 0; k < gate.count(1); k++) {
            all.append(' ').append(gate.octet(k));
        }
        all.append('\n').append(gate.load(3)).append(Checks.written(gate, 3));
        return all.toString();
    }

    private interface GateCall {
        void make(GateHouse gate);
    }

    private static void throwing(String what, Class<? extends RuntimeException> due, GateCall call) {
        GateHouse gate = used();
        CHECKS.refused(what, due, () -> {
            call.make(gate);
            return 0;
        });
        CHECKS.same("all behind " + what, everything(gate), everything(used()));
    }

    private static void throwingCalls() {
        CHECKS.sentence("Terms", "A call that throws changes nothing.");
        Class<IndexOutOfBoundsException> noList = IndexOutOfBoundsException.class;
        Class<NoSuchElementException> none = NoSuchElementException.class;
        Class<IllegalArgumentException> wrong = IllegalArgumentException.class;
        for (int list : new int[] {-1, 4}) {
            throwing("load", noList, gate -> gate.load(list));
            throwing("rules", noList, gate -> gate.rules(list));
            throwing("rule", noList, gate -> gate.rule(list, 0, 0));
            throwing("write", noList, gate -> gate.write(list));
            throwing("match", noList, gate -> gate.match(list, 0, 0, 0, 0, 0, 0, 0));
            throwing("shadowed", noList, gate -> gate.shadowed(list, 0));
            throwing("alike one", noList, gate -> gate.alike(list, 1));
            throwing("alike other", noList, gate -> gate.alike(0, list));
            throwing("least list", noList, gate -> gate.least(list, 1));
            throwing("least to", noList, gate -> gate.least(0, list));
        }
        throwing("rule i", none, gate -> gate.rule(0, 2, 0));
        throwing("rule what", none, gate -> gate.rule(0, 0, 15));
        throwing("rule of the policy", none, gate -> gate.rule(0, NONE, 1));
        throwing("octet", none, gate -> gate.octet(gate.count(1)));
        throwing("match in", wrong, gate -> gate.match(0, 4, 0, 0, 0, 0, 0, 0));
        throwing("match state", wrong, gate -> gate.match(0, 0, 0, 0, 0, 0, 0, 4));
        throwing("shadowed i", none, gate -> gate.shadowed(0, 2));
        throwing("found", none, gate -> gate.found(7));
        throwing("packet in", wrong, gate -> gate.packet(4, 17, 9, 9, 9, 9, 9));
        throwing("packet proto", wrong, gate -> gate.packet(0, 256, 9, 9, 9, 9, 9));
        throwing("packet sport", wrong, gate -> gate.packet(0, 17, 9, 9, 65536, 9, 9));
        throwing("packet dport", wrong, gate -> gate.packet(0, 17, 9, 9, 9, 65536, 9));
        throwing("packet flags", wrong, gate -> gate.packet(0, 17, 9, 9, 9, 9, 64));
        throwing("datagram", wrong, gate -> gate.datagram(4));
        throwing("connection i", none, gate -> gate.connection(2, 0));
        throwing("connection what", none, gate -> gate.connection(0, 9));
        GateHouse fresh = new GateHouse();
        CHECKS.refused("pack", none, () -> fresh.pack());
        CHECKS.same("OUT behind pack", fresh.count(1), 0);
    }

    private static void newObject() {
        CHECKS.sentence("Promise 1", "Empty LISTS and tape.");
        GateHouse gate = new GateHouse();
        CHECKS.same("tape", gate.count(0), 0);
        CHECKS.same("end of it", gate.end(1), false);
        for (int list = 0; list < 4; list++) {
            CHECKS.same("rules of " + list, gate.rules(list), 0);
            CHECKS.same("policy of " + list, gate.rule(list, NONE, 0), 0);
            CHECKS.same("policy told of " + list, gate.rule(list, NONE, 14), 0);
            CHECKS.same("match of " + list, gate.match(list, 0, 0, 0, 0, 0, 0, 0), NONE);
            int empty = list;
            CHECKS.refused("rule of " + list, NoSuchElementException.class, () -> gate.rule(empty, 0, 0));
            CHECKS.refused("shadowed of " + list, NoSuchElementException.class, () -> gate.shadowed(empty, 0) ? 1 : 0);
        }
        CHECKS.same("an empty tape is a text", gate.load(0), 0);
        CHECKS.same("and no datagram", gate.datagram(0), -1);
        CHECKS.same("other objects stay apart", new GateHouse().fault(), 0);
    }

    private static void feedOrder() {
        CHECKS.sentence("Promise 2", "Twenty bytes come behind the tape, of each number the highest first: how many it has");
        GateHouse gate = Checks.gateWith("policy accept;");
        byte[] d = datagram(0, 17, 0x80ff7f01, 0xfe0102fd, udp(0x8001, 0xff7f, 12));
        int[] rows = new int[10];
        for (int k = 0; k < 40; k++) {
            rows[k / 4] = rows[k / 4] << 8 | d[k] & 255;
        }
        CHECKS.same("first", gate.feed(rows[0], rows[1], rows[2], rows[3], rows[4]), 20);
        CHECKS.same("second", gate.feed(rows[5], rows[6], rows[7], rows[8], rows[9]), 40);
        CHECKS.same("it is a datagram", gate.datagram(0), 1);
        CHECKS.same("its bytes", Checks.connection(gate, 0, 0), "17 2164227841 4261479165 32769 65407 0 0 0 30");
        // Behind the tape is behind what end() has left of it.
        gate.feed(0x64726f70, 0x3b3f3f3f, 0, 0, 0);
        gate.end(5);
        CHECKS.same("behind five", gate.feed(0x64726f70, 0x3b202020, 0x20202020, 0x20202020, 0x20202020), 25);
        CHECKS.same("two rules", gate.load(1), 2);
    }

    private static void feedFull() {
        CHECKS.sentence("Promise 2", "NONE, and none come, if it would have more than 2100.");
        GateHouse gate = new GateHouse();
        for (int k = 1; k <= 104; k++) {
            CHECKS.same("feed", gate.feed(0x64726f70, 0x20696e20, 0x323b2020, 0x20202020, 0x20202020), 20 * k);
        }
        CHECKS.same("2080 and 20", gate.feed(1, 2, 3, 4, 5), 2100);
        CHECKS.same("2100 and 20", gate.feed(1, 2, 3, 4, 5), NONE);
        CHECKS.same("once more", gate.feed(LEAST, MOST, -1, 0, 1), NONE);
        CHECKS.same("none came", gate.count(0), 2100);
        gate.end(2099);
        CHECKS.same("2099 and 20", gate.feed(1, 2, 3, 4, 5), NONE);
        gate.end(2081);
        CHECKS.same("2081 and 20", gate.feed(1, 2, 3, 4, 5), NONE);
        CHECKS.same("none came", gate.count(0), 2081);
        gate.end(2080);
        CHECKS.same("2080 and 20", gate.feed(1, 2, 3, 4, 5), 2100);
        // What stood ahead was not touched by what was refused.
        gate.end(30);
        CHECKS.same("the first bytes", gate.load(0), 2);
        CHECKS.same("written", Checks.written(gate, 0), "policy drop;\ndrop in 2;\ndrop in 2;\n");
    }

    private static void endWithin() {
        CHECKS.sentence("Promise 3", "The tape has its first n bytes alone: true");
        GateHouse gate = new GateHouse();
        CHECKS.same("0 of none", gate.end(0), true);
        Checks.feed(gate, Checks.octets("drop;accept;reject;x"));
        CHECKS.same("all of 20", gate.end(20), true);
        CHECKS.same("they are there", gate.count(0), 20);
        CHECKS.same("19 of 20", gate.end(19), true);
        CHECKS.same("19 again", gate.end(19), true);
        CHECKS.same("they are there", gate.count(0), 19);
        CHECKS.same("the first ones", gate.load(0), 3);
        Checks.feed(gate, Checks.octets("drop;accept;reject;x"));
        CHECKS.same("5 of 20", gate.end(5), true);
        CHECKS.same("the first one", gate.load(0), 1);
        gate.feed(1, 2, 3, 4, 5);
        CHECKS.same("0 of 20", gate.end(0), true);
        CHECKS.same("none is there", gate.count(0), 0);
        CHECKS.same("an empty text", gate.load(0), 0);
    }

    private static void endTakesOff() {
        CHECKS.sentence("Promise 3", "The tape has its first n bytes alone: true", "what stood behind them");
        GateHouse gate = Checks.gateWith("policy accept;");
        Checks.feed(gate, Checks.octets("drop in 1.2.3.4;"));
        gate.end(9);
        CHECKS.same("a number without the .", gate.load(1), -10);
        CHECKS.same("the end can't come", gate.fault(), 2);
        Checks.feed(gate, Checks.octets("drop;drop;"));
        gate.end(5);
        CHECKS.same("a rule without the other", gate.load(1), 1);
        Checks.feed(gate, Checks.octets("dropped;"));
        gate.end(4);
        CHECKS.same("a word without the rest", gate.load(1), -5);
        Checks.feed(gate, Checks.octets("drop    ?"));
        gate.end(5);
        CHECKS.same("a blank without the rest", gate.load(1), -6);
        // A last byte by itself is a row with 0, not with what stood behind it.
        byte[][] all = {datagram(0, 17, 1, 2, udp(3, 4, 1)), datagram(0, 6, 1, 2, tcp(3, 4, 2, 0, 1)),
            datagram(0, 1, 1, 2, icmp(8, 0, 9, new byte[1]))};
        for (byte[] d : all) {
            byte[] more = Arrays.copyOf(d, d.length + 30);
            Arrays.fill(more, d.length, more.length, (byte) 255);
            Checks.feed(gate, more);
            gate.end(d.length);
            CHECKS.same("a datagram without the rest", gate.datagram(0), 1);
        }
        // So is the place behind the last byte of a full tape.
        for (int k = 0; k < 105; k++) {
            gate.feed(0x20202020, 0x20202020, 0x20202020, 0x20202020, 0x31313131);
        }
        CHECKS.same("a full tape that ends in a number", gate.load(1), -17);
        CHECKS.same("which can't come", gate.fault(), 2);
    }

    private static void endRefused() {
        CHECKS.sentence("Promise 3", "false, if it has not so many, or n is below 0.");
        GateHouse gate = new GateHouse();
        CHECKS.same("1 of none", gate.end(1), false);
        Checks.feed(gate, Checks.octets("drop;accept;reject;"));
        for (int n : new int[] {20, 21, 2100, 2101, MOST, -1, -19, LEAST}) {
            CHECKS.same("end " + n, gate.end(n), false);
            CHECKS.same("tape behind end " + n, gate.count(0), 19);
        }
        // What end() took off does not come back.
        gate.end(5);
        CHECKS.same("6 of 5", gate.end(6), false);
        CHECKS.same("the text", gate.load(0), 1);
        CHECKS.same("5 of none", gate.end(5), false);
    }

    private static void octetOfOut() {
        CHECKS.sentence("Promise 9", "Byte k of OUT.");
        GateHouse gate = new GateHouse();
        gate.write(0);
        String due = "policy drop;\n";
        for (int k = 0; k < due.length(); k++) {
            CHECKS.same("octet " + k, gate.octet(k), due.charAt(k));
        }
        gate.packet(0, 200, 0x7f80ff00, 0x01fe8081, 0, 0, 0);
        gate.pack();
        int[] ends = {127, 128, 255, 0, 1, 254, 128, 129};
        for (int k = 0; k < 8; k++) {
            CHECKS.same("octet " + (12 + k), gate.octet(12 + k), ends[k]);
        }
    }

    private static void octetRefused() {
        CHECKS.sentence("Promise 9", "NoSuchElementException: there is none such.");
        Class<NoSuchElementException> none = NoSuchElementException.class;
        GateHouse gate = new GateHouse();
        CHECKS.refused("0 of an empty OUT", none, () -> gate.octet(0));
        CHECKS.refused("-1 of an empty OUT", none, () -> gate.octet(-1));
        gate.packet(0, 6, 1, 2, 3, 4, 0);
        CHECKS.same("40 bytes", gate.pack(), 40);
        CHECKS.same("the last one", gate.octet(39), 0);
        // A shorter OUT hides what stood there.
        CHECKS.same("13 bytes", gate.write(0), 13);
        for (int k : new int[] {13, 14, 39, 40, 2999, 3000, MOST, -1, LEAST}) {
            CHECKS.refused("octet " + k, none, () -> gate.octet(k));
        }
    }

    private static void countsAtFirst() {
        CHECKS.sentence("Promise 21", "0 bytes of the tape, 1 of OUT, 2 NOW, 3 ROOM, 4 CONNECTIONS, 5 packets that came", "at first");
        GateHouse gate = new GateHouse();
        int[] due = {0, 0, 0, 8, 0, 0, 0, 0};
        for (int what = 0; what < 8; what++) {
            CHECKS.same("count " + what, gate.count(what), due[what]);
        }
    }

    private static void countsOfMany() {
        CHECKS.sentence("Promise 21", "5 packets that came, 6 CONNECTIONS that went to make room, 7 packets that were FULL");
        GateHouse gate = Checks.gateWith("policy accept; drop in 1; reject in 2;");
        gate.packet(1, 17, 1, 2, 3, 4, 0);
        gate.packet(2, 17, 1, 2, 3, 4, 0);
        gate.packet(0, 6, 1, 2, 3, 4, 0);
        CHECKS.same("dropped, rejected and invalid ones came", gate.count(5), 3);
        send(gate, 0, datagram(0, 50, 1, 2, new byte[0]));
        CHECKS.same("so did a datagram", gate.count(5), 4);
        send(gate, 0, new byte[19]);
        CHECKS.same("one with a FAULT did not", gate.count(5), 4);
        gate.match(0, 0, 0, 0, 0, 0, 0, 0);
        CHECKS.same("nor one that was matched", gate.count(5), 4);
        gate.room(1);
        gate.now(600);
        CHECKS.same("room() and now() make no room", gate.count(6), 0);
        gate.packet(0, 17, 1, 2, 3, 4, 0);
        gate.packet(0, 17, 1, 2, 3, 5, 0);
        CHECKS.same("a second one does", gate.count(6), 1);
        gate.packet(0, 17, 2, 1, 5, 3, 0);
        gate.packet(0, 17, 1, 2, 3, 6, 0);
        gate.packet(0, 17, 1, 2, 3, 6, 0);
        CHECKS.same("a full one does not", gate.count(6), 1);
        CHECKS.same("full ones", gate.count(7), 2);
        CHECKS.same("they came", gate.count(5), 9);
        gate.room(2);
        CHECKS.same("room() leaves 6", gate.count(6), 1);
        CHECKS.same("room() leaves 7", gate.count(7), 2);
    }

    private static void countsRefused() {
        CHECKS.sentence("Promise 21", "NONE for another what.");
        for (int what : new int[] {-1, 8, 9, 255, MOST, LEAST}) {
            CHECKS.same("count " + what, new GateHouse().count(what), NONE);
        }
    }
}
