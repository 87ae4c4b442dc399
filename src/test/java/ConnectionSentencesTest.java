import java.util.NoSuchElementException;

/**
 * Sentences of the document's fourth part (connections, room, phases and times) and of promises 15, 16, 17 and 20
 * that name a boundary case: each has a method of its own, which names it first.
 */
public final class ConnectionSentencesTest extends Datagrams {
    private static final Checks CHECKS = new Checks();
    private static final int NONE = GateHouse.NONE;
    private static final int LEAST = Integer.MIN_VALUE;
    private static final int MOST = Integer.MAX_VALUE;
    // Answers of packet(): accepted in one of the states.
    private static final int NEW = 1;
    private static final int ESTABLISHED = 5;
    private static final int RELATED = 9;
    private static final int INVALID = 13;

    public static void main(String[] args) {
        timeAtFirst();
        roomAtFirst();
        partsAtBeginning();
        nothingLeftOfOthers();
        asOrigin();
        asAnswer();
        asBoth();
        icmpOf();
        goesWhenDue();
        goneIsGone();
        relatedOnes();
        invalidWhereNot();
        establishedOnes();
        newTcp();
        newIcmp();
        notAccepted();
        acceptedButNothing();
        steps();
        unlessThereAreRoom();
        leastDueGoes();
        oldestOfSeveral();
        allAnswered();
        whatComes();
        phaseSent();
        phaseMet();
        phaseOpen();
        phaseClosing();
        phaseLast();
        phaseWait();
        phaseClosed();
        againAsAtItsBeginning();
        otherTimes();
        nowSet();
        nowRefused();
        roomSet();
        roomRefused();
        packetAnswers();
        packetFull();
        packetRefused();
        connectionParts();
        connectionOrder();
        connectionRefused();
        CHECKS.end();
    }

    private static void terms(String words) {
        CHECKS.sentence("Terms, 4", words);
    }

    private static void terms(String words, String aspect) {
        CHECKS.sentence("Terms, 4", words, aspect);
    }

    private static GateHouse open() {
        return Checks.gateWith("policy accept;");
    }

    private static String dests(GateHouse gate) {
        StringBuilder all = new StringBuilder();
        for (int i = 0; i < gate.count(4); i++) {
            all.append(i == 0 ? "" : " ").append(gate.connection(i, 2));
        }
        return all.toString();
    }

    /** A UDP packet to an end, and one back. */
    private static int to(GateHouse gate, int dst) {
        return gate.packet(0, 17, 1, dst, 5, 6, 0);
    }

    private static int back(GateHouse gate, int src) {
        return gate.packet(0, 17, src, 1, 6, 5, 0);
    }

    private static void timeAtFirst() {
        terms("NOW is a time (0 at first, whole seconds).");
        GateHouse gate = open();
        CHECKS.same("at first", gate.count(2), 0);
        to(gate, 2);
        CHECKS.same("due by it", gate.connection(0, 8), 30);
    }

    private static void roomAtFirst() {
        terms("There is room for ROOM of them (8 at first).");
        GateHouse gate = open();
        CHECKS.same("at first", gate.count(3), 8);
        for (int k = 1; k <= 8; k++) {
            to(gate, 10 + k);
            CHECKS.same("connections", gate.count(4), k);
        }
        CHECKS.same("none went", gate.count(6), 0);
        to(gate, 19);
        CHECKS.same("the ninth", dests(gate), "12 13 14 15 16 17 18 19");
        CHECKS.same("one went", gate.count(6), 1);
    }

    private static void partsAtBeginning() {
        terms("A CONNECTION has a PROTO, the SRC, DST, SPORT, DPORT of the packet that began it (its ORIGIN), a PHASE,"
                + " whether it is ANSWERED, whose FIN came first (0 none, 1 ORIGIN's, 2 the ANSWER's), and a DUE time.");
        GateHouse gate = open();
        gate.packet(3, 6, -1, LEAST, 65535, 0, 2);
        gate.packet(3, 17, LEAST, -1, 0, 65535, 63);
        gate.packet(3, 1, MOST, 0, 8 * 256 + 255, 65535, 63);
        gate.packet(3, 255, 0, 0, 0, 0, 63);
        gate.packet(3, 0, 1, 1, 65535, 65535, 63);
        String[] due = {"6 4294967295 2147483648 65535 0 1 0 0 120", "17 2147483648 4294967295 0 65535 0 0 0 30",
            "1 2147483647 0 2303 65535 0 0 0 30", "255 0 0 0 0 0 0 0 600", "0 1 1 65535 65535 0 0 0 600"};
        for (int i = 0; i < due.length; i++) {
            CHECKS.same("connection " + i, Checks.connection(gate, i, 0), due[i]);
        }
    }

    private static void nothingLeftOfOthers() {
        terms("the SRC, DST, SPORT, DPORT of the packet that began it (its ORIGIN), a PHASE", "nothing of one that has gone");
        for (int way = 0; way < 3; way++) {
            GateHouse gate = open();
            gate.room(1);
            for (int flags : new int[] {2, -18, 16, -1, 1, -16}) {
                int got = flags > 0 ? gate.packet(0, 6, 1, 2, 3, 4, flags) : gate.packet(0, 6, 2, 1, 4, 3, -flags);
                CHECKS.same("flags " + flags, got, flags == 2 ? NEW : ESTABLISHED);
            }
            CHECKS.same("it has had both FINs", Checks.connection(gate, 0, 5), "6 1 2 120");
            if (way == 0) {
                gate.now(120);
            } else {
                gate.room(way);
            }
            int now = gate.count(2);
            gate.packet(0, 17, 7, 8, 9, 10, 0);
            CHECKS.same("udp", Checks.connection(gate, 0, 0), "17 7 8 9 10 0 0 0 " + (now + 30));
            gate.room(1);
            gate.packet(0, 6, 7, 8, 9, 10, 2);
            CHECKS.same("tcp", Checks.connection(gate, 0, 0), "6 7 8 9 10 1 0 0 " + (now + 120));
        }
        // A full table that loses some and is filled again.
        GateHouse gate = open();
        gate.room(64);
        for (int k = 0; k < 64; k++) {
            gate.packet(0, k % 3 == 0 ? 17 : 50, 1, 100 + k, 5, 6, 0);
        }
        gate.now(30);
        CHECKS.same("so many are left", gate.count(4), 42);
        for (int k = 0; k < 22; k++) {
            CHECKS.same("begins", to(gate, 200 + k), NEW);
        }
        CHECKS.same("none went", gate.count(6), 0);
        int place = 0;
        for (int k = 0; k < 64; k++) {
            if (k % 3 != 0) {
                CHECKS.same("an old one", gate.connection(place, 2), 100 + k);
                CHECKS.same("due of an old one", gate.connection(place, 8), 600);
                place++;
            }
        }
        for (int k = 0; k < 22; k++) {
            CHECKS.same("a new one", gate.connection(place + k, 2), 200 + k);
            CHECKS.same("due of a new one", gate.connection(place + k, 8), 60);
        }
        to(gate, 300);
        CHECKS.same("the oldest of the least due went", gate.connection(42, 2), 201);
        CHECKS.same("the newest", gate.connection(63, 2), 300);
    }

    private static void asOrigin() {
        terms("A packet is of it as ORIGIN, if PROTO and all four are the same");
        int[][] apart = {{50, 1, 2, 3, 4}, {17, 9, 2, 3, 4}, {17, 1, 9, 3, 4}, {17, 1, 2, 9, 4}, {17, 1, 2, 3, 9},
            {16, 1, 2, 3, 4}, {18, 1, 2, 3, 4}};
        for (int[] p : apart) {
            GateHouse gate = open();
            gate.packet(0, 17, 1, 2, 3, 4, 0);
            CHECKS.same("the same, IN aside", gate.packet(3, 17, 1, 2, 3, 4, 0), NEW);
            CHECKS.same("is of it", gate.count(4), 1);
            CHECKS.same("one other", gate.packet(0, p[0], p[1], p[2], p[3], p[4], 0), NEW);
            CHECKS.same("is of none", gate.count(4), 2);
        }
    }

    private static void asAnswer() {
        terms("as ANSWER, if they are with SRC and DST, SPORT and DPORT changed for one another");
        int[] protos = {17, 50, 6};
        for (int proto : protos) {
            GateHouse gate = open();
            gate.packet(0, proto, 1, 2, 3, 4, 2);
            CHECKS.same("changed", gate.packet(3, proto, 2, 1, 4, 3, 18), ESTABLISHED);
            CHECKS.same("is of it", gate.count(4), 1);
            CHECKS.same("answered", gate.connection(0, 6), 1);
            CHECKS.same("ends alone changed", gate.packet(0, proto, 2, 1, 3, 4, 2), NEW);
            CHECKS.same("ports alone changed", gate.packet(0, proto, 1, 2, 4, 3, 18), ESTABLISHED);
            CHECKS.same("which is an answer of the latter", gate.count(4), 2);
            CHECKS.same("one port changed", gate.packet(0, proto, 2, 1, 4, 4, 2), NEW);
            CHECKS.same("is of none", gate.count(4), 3);
        }
    }

    private static void asBoth() {
        terms("(as ORIGIN, if it is both)");
        GateHouse gate = open();
        gate.packet(0, 17, 9, 9, 5, 5, 0);
        CHECKS.same("udp", gate.packet(0, 17, 9, 9, 5, 5, 0), NEW);
        CHECKS.same("is no answer", Checks.connection(gate, 0, 5), "0 0 0 30");
        gate.packet(0, 6, 9, 9, 5, 5, 2);
        CHECKS.same("tcp: S of ORIGIN stays", gate.packet(0, 6, 9, 9, 5, 5, 2), NEW);
        CHECKS.same("tcp: B of ORIGIN", gate.packet(0, 6, 9, 9, 5, 5, 18), INVALID);
        CHECKS.same("stays", Checks.connection(gate, 1, 5), "1 0 0 120");
        // With the ends alone, or the ports alone the same it is not both.
        gate.packet(0, 17, 7, 7, 1, 2, 0);
        CHECKS.same("an answer", gate.packet(0, 17, 7, 7, 2, 1, 0), ESTABLISHED);
        gate.packet(0, 17, 1, 2, 7, 7, 0);
        CHECKS.same("an answer", gate.packet(0, 17, 2, 1, 7, 7, 0), ESTABLISHED);
    }

    private static void icmpOf() {
        terms("of ICMP only types 8 (ORIGIN) and 0 (ANSWER) with the same DPORT (SPORT aside)");
        GateHouse gate = open();
        CHECKS.same("begins", gate.packet(0, 1, 1, 2, 8 * 256, 77, 0), NEW);
        CHECKS.same("another code", gate.packet(0, 1, 1, 2, 8 * 256 + 255, 77, 0), NEW);
        CHECKS.same("is of it", gate.count(4), 1);
        for (int type = 0; type < 256; type++) {
            GateHouse other = open();
            other.packet(0, 1, 1, 2, 8 * 256, 77, 0);
            CHECKS.same("type " + type + " of the origin's end", other.packet(0, 1, 1, 2, type * 256, 77, 0),
                    type == 8 ? NEW : INVALID);
            CHECKS.same("type " + type + " of the other end", other.packet(0, 1, 2, 1, type * 256, 77, 0),
                    type == 8 ? NEW : type == 0 ? ESTABLISHED : INVALID);
            CHECKS.same("answered by " + type, other.connection(0, 6), type == 0 ? 1 : 0);
        }
        for (int id : new int[] {76, 78, 0, 65535}) {
            CHECKS.same("answer " + id, gate.packet(0, 1, 2, 1, 0, id, 0), INVALID);
        }
        CHECKS.same("not answered by then", gate.connection(0, 6), 0);
        CHECKS.same("answer", gate.packet(0, 1, 2, 1, 255, 77, 0), ESTABLISHED);
        CHECKS.same("answered", gate.connection(0, 6), 1);
        CHECKS.same("type 8 the other way is of none", gate.packet(0, 1, 2, 1, 8 * 256, 77, 0), NEW);
        CHECKS.same("and begins", gate.count(4), 2);
        CHECKS.same("another DPORT is of none", gate.packet(0, 1, 1, 2, 8 * 256, 78, 0), NEW);
        CHECKS.same("and begins", gate.count(4), 3);
    }

    private static void goesWhenDue() {
        terms("When NOW is DUE or later, it goes.");
        GateHouse gate = open();
        gate.packet(0, 50, 1, 11, 0, 0, 0);
        to(gate, 12);
        gate.packet(0, 6, 1, 13, 5, 6, 2);
        gate.now(1);
        to(gate, 14);
        gate.packet(0, 50, 1, 15, 0, 0, 0);
        gate.now(29);
        CHECKS.same("one ahead of 30", dests(gate), "11 12 13 14 15");
        gate.now(30);
        CHECKS.same("at 30", dests(gate), "11 13 14 15");
        gate.now(30);
        CHECKS.same("at 30 again", dests(gate), "11 13 14 15");
        gate.now(119);
        CHECKS.same("later than 31", dests(gate), "11 13 15");
        gate.now(600);
        CHECKS.same("at 600", dests(gate), "15");
        gate.now(1000000000);
        CHECKS.same("at the last time", gate.count(4), 0);
        CHECKS.same("none of them made room", gate.count(6), 0);
    }

    private static void goneIsGone() {
        terms("When NOW is DUE or later, it goes.", "a packet is of it no more");
        GateHouse gate = open();
        gate.packet(0, 6, 1, 2, 3, 4, 2);
        gate.packet(0, 6, 2, 1, 4, 3, 18);
        gate.now(59);
        CHECKS.same("MET for 59 seconds", gate.packet(0, 6, 1, 2, 3, 4, 16), ESTABLISHED);
        gate.now(59 + 3599);
        CHECKS.same("OPEN for 3599", gate.packet(0, 6, 2, 1, 4, 3, 16), ESTABLISHED);
        gate.now(59 + 3599 + 3600);
        CHECKS.same("OPEN for 3600", gate.packet(0, 6, 1, 2, 3, 4, 16), INVALID);
        CHECKS.same("none is there", gate.count(4), 0);
        CHECKS.same("it begins again", gate.packet(0, 6, 2, 1, 4, 3, 2), NEW);
        CHECKS.same("from the other end", Checks.connection(gate, 0, 0), "6 2 1 4 3 1 0 0 7378");
    }

    private static byte[] report(byte[] told) {
        return datagram(0, 1, 77, 88, icmp(3, 1, 0, beginning(told, 8)));
    }

    private static void relatedOnes() {
        terms("RELATED, if it TELLS OF a packet of a CONNECTION (as ORIGIN or ANSWER).");
        GateHouse gate = open();
        gate.packet(0, 6, 1, 2, 3, 4, 2);
        gate.packet(0, 17, 1, 2, 3, 4, 0);
        gate.packet(0, 1, 1, 2, 8 * 256, 77, 0);
        gate.packet(0, 50, 1, 2, 0, 0, 0);
        byte[][] of = {datagram(0, 6, 1, 2, tcp(3, 4, 63, 0, 0)), datagram(0, 6, 2, 1, tcp(4, 3, 0, 0, 0)),
            datagram(0, 17, 1, 2, udp(3, 4, 0)), datagram(0, 17, 2, 1, udp(4, 3, 0)),
            datagram(0, 1, 1, 2, icmp(8, 9, 77, new byte[0])), datagram(0, 1, 2, 1, icmp(0, 9, 77, new byte[0])),
            datagram(0, 50, 1, 2, new byte[8]), datagram(0, 50, 2, 1, new byte[8])};
        for (int k = 0; k < of.length; k++) {
            CHECKS.same("of one, " + k, send(gate, 0, report(of[k])), RELATED);
        }
        byte[][] none = {datagram(0, 6, 1, 2, tcp(4, 3, 2, 0, 0)), datagram(0, 17, 2, 1, udp(3, 4, 0)),
            datagram(0, 1, 1, 2, icmp(0, 0, 77, new byte[0])), datagram(0, 1, 1, 2, icmp(8, 0, 78, new byte[0])),
            datagram(0, 1, 1, 2, icmp(3, 0, 77, new byte[0])), datagram(0, 51, 1, 2, new byte[8])};
        for (int k = 0; k < none.length; k++) {
            CHECKS.same("of none, " + k, send(gate, 0, report(none[k])), INVALID);
        }
        CHECKS.same("packet() tells of none", gate.packet(0, 1, 1, 2, 3 * 256, 0, 0), INVALID);
    }

    private static void invalidWhereNot() {
        terms("Else, if it is of a CONNECTION: of TCP INVALID where - stands below");
        GateHouse gate = open();
        gate.packet(0, 6, 1, 2, 3, 4, 2);
        // A SYN alone is NEW where it is of none; as an answer it is of this one, and - stands there.
        CHECKS.same("an answer's SYN", gate.packet(0, 6, 2, 1, 4, 3, 2), INVALID);
        CHECKS.same("begins nothing", gate.count(4), 1);
        gate.packet(0, 6, 2, 1, 4, 3, 18);
        gate.packet(0, 6, 1, 2, 3, 4, 16);
        CHECKS.same("a SYN where it is OPEN", gate.packet(0, 6, 1, 2, 3, 4, 2), INVALID);
        CHECKS.same("though it is ANSWERED", Checks.connection(gate, 0, 5), "3 1 0 3600");
        // Others have no PHASES, and no such packets.
        gate.packet(0, 17, 1, 2, 3, 4, 63);
        CHECKS.same("udp with any flags", gate.packet(0, 17, 2, 1, 4, 3, 7), ESTABLISHED);
    }

    private static void establishedOnes() {
        terms("ESTABLISHED, if it is ANSWERED or this is an ANSWER; else NEW.");
        for (int proto : new int[] {17, 50}) {
            GateHouse gate = open();
            CHECKS.same("begins", gate.packet(0, proto, 1, 2, 3, 4, 0), NEW);
            CHECKS.same("origin, not answered", gate.packet(0, proto, 1, 2, 3, 4, 0), NEW);
            CHECKS.same("answer", gate.packet(0, proto, 2, 1, 4, 3, 0), ESTABLISHED);
            CHECKS.same("origin, answered", gate.packet(0, proto, 1, 2, 3, 4, 0), ESTABLISHED);
        }
        // An answer that is not accepted does not make it answered.
        GateHouse gate = Checks.gateWith("policy accept; drop in 1;");
        to(gate, 2);
        CHECKS.same("a dropped answer", gate.packet(1, 17, 2, 1, 6, 5, 0), 4);
        CHECKS.same("origin", to(gate, 2), NEW);
    }

    private static void newTcp() {
        terms("Else it is NEW, but INVALID: of TCP, if FLAGS without the other bits than SYN, FIN, RST, ACK are not SYN alone");
        for (int flags = 0; flags < 64; flags++) {
            boolean fine = flags == 2 || flags == 10 || flags == 34 || flags == 42;
            GateHouse gate = open();
            CHECKS.same("flags " + flags, gate.packet(0, 6, 1, 2, 3, 4, flags), fine ? NEW : INVALID);
            CHECKS.same("begun by " + flags, gate.count(4), fine ? 1 : 0);
            // Flags say nothing of other protocols.
            CHECKS.same("udp with " + flags, gate.packet(0, 17, 1, 2, 3, 4, flags), NEW);
        }
    }

    private static void newIcmp() {
        terms("of ICMP, if it is not of type 8 (so those that TELL OF none)");
        for (int type = 0; type < 256; type++) {
            GateHouse gate = open();
            CHECKS.same("type " + type, gate.packet(0, 1, 1, 2, type * 256 + 8, 0, 0), type == 8 ? NEW : INVALID);
            CHECKS.same("begun by " + type, gate.count(4), type == 8 ? 1 : 0);
        }
        GateHouse gate = open();
        for (int type : new int[] {3, 4, 5, 11, 12}) {
            CHECKS.same("without a packet", send(gate, 0, datagram(0, 1, 1, 2, icmp(type, 0, 0, new byte[0]))), INVALID);
        }
    }

    private static void notAccepted() {
        terms("Then LIST 0 tells the ACTION. If that is not accept, nothing else happens.");
        GateHouse gate = Checks.gateWith("policy accept; drop in 1; reject in 2;");
        // Other lists tell nothing.
        Checks.load(gate, 1, "drop;");
        gate.room(1);
        CHECKS.same("accepted", gate.packet(0, 6, 1, 2, 3, 4, 2), NEW);
        gate.now(1);
        for (int in = 1; in < 3; in++) {
            int action = in == 1 ? 0 : 2;
            CHECKS.same("a new one", gate.packet(in, 17, 1, 2, 3, 4, 0), action);
            CHECKS.same("a SYN again", gate.packet(in, 6, 1, 2, 3, 4, 2), action);
            CHECKS.same("an answer", gate.packet(in, 6, 2, 1, 4, 3, 18), action + 4);
            CHECKS.same("a reset", gate.packet(in, 6, 2, 1, 4, 3, 4), action + 4);
            CHECKS.same("the connection", Checks.connection(gate, 0, 0), "6 1 2 3 4 1 0 0 120");
        }
        CHECKS.same("none went", gate.count(6), 0);
        // Where it is full it is rejected as ever.
        gate.packet(0, 6, 2, 1, 4, 3, 18);
        CHECKS.same("rejected", gate.packet(2, 17, 1, 2, 3, 4, 0), 2);
        CHECKS.same("dropped", gate.packet(1, 17, 1, 2, 3, 4, 0), 0);
        CHECKS.same("none was full", gate.count(7), 0);
    }

    private static void acceptedButNothing() {
        terms("INVALID and RELATED ones that are accepted change nothing.");
        GateHouse gate = open();
        gate.room(1);
        gate.packet(0, 6, 1, 2, 3, 4, 2);
        gate.now(5);
        CHECKS.same("invalid of it", gate.packet(0, 6, 1, 2, 3, 4, 16), INVALID);
        CHECKS.same("invalid answer", gate.packet(0, 6, 2, 1, 4, 3, 16), INVALID);
        CHECKS.same("invalid of none", gate.packet(0, 6, 7, 7, 7, 7, 16), INVALID);
        CHECKS.same("related", send(gate, 0, report(datagram(0, 6, 2, 1, tcp(4, 3, 4, 0, 0)))), RELATED);
        CHECKS.same("the connection", Checks.connection(gate, 0, 0), "6 1 2 3 4 1 0 0 120");
        CHECKS.same("connections", gate.count(4), 1);
        CHECKS.same("none went", gate.count(6), 0);
        gate.packet(0, 6, 2, 1, 4, 3, 18);
        CHECKS.same("invalid where it would be full", gate.packet(0, 6, 7, 7, 7, 7, 16), INVALID);
        CHECKS.same("none was full", gate.count(7), 0);
    }

    private static void steps() {
        terms("One that is of a CONNECTION steps it: it is ANSWERED, if this is an ANSWER; .. DUE is NOW and the time below.");
        GateHouse gate = open();
        to(gate, 2);
        gate.now(29);
        to(gate, 2);
        CHECKS.same("stepped by its origin", Checks.connection(gate, 0, 5), "0 0 0 59");
        gate.now(58);
        back(gate, 2);
        CHECKS.same("stepped by an answer", Checks.connection(gate, 0, 5), "0 1 0 238");
        gate.now(237);
        to(gate, 2);
        CHECKS.same("stays answered", Checks.connection(gate, 0, 5), "0 1 0 417");
        // A step needs no room.
        gate.room(1);
        to(gate, 2);
        back(gate, 2);
        CHECKS.same("where it is full", back(gate, 2), ESTABLISHED);
        CHECKS.same("none was full", gate.count(7), 0);
        gate.now(1000000000);
        gate.packet(0, 6, 1, 2, 3, 4, 2);
        gate.packet(0, 6, 2, 1, 4, 3, 18);
        gate.packet(0, 6, 1, 2, 3, 4, 16);
        CHECKS.same("the latest time of all", gate.connection(0, 8), 1000003600);
    }

    private static void unlessThereAreRoom() {
        terms("One that is of none begins one, unless there are ROOM");
        for (int room : new int[] {1, 2, 64}) {
            GateHouse gate = open();
            gate.room(room);
            for (int k = 0; k < room; k++) {
                CHECKS.same("begins", to(gate, 100 + k), NEW);
            }
            CHECKS.same("all of them are there", gate.count(4), room);
            CHECKS.same("none went", gate.count(6), 0);
            CHECKS.same("one more", to(gate, 99), NEW);
            CHECKS.same("as many as before", gate.count(4), room);
            CHECKS.same("one went", gate.count(6), 1);
            CHECKS.same("the newest is the last", gate.connection(room - 1, 2), 99);
            CHECKS.same("the oldest is the second", gate.connection(0, 2), room == 1 ? 99 : 101);
        }
        // One that has gone in time leaves room.
        GateHouse gate = open();
        gate.room(1);
        to(gate, 2);
        back(gate, 2);
        gate.now(180);
        CHECKS.same("room by time", to(gate, 3), NEW);
        CHECKS.same("none went for it", gate.count(6), 0);
    }

    private static void leastDueGoes() {
        terms("then, of those that are not ANSWERED, the one with the least DUE .. goes");
        GateHouse gate = open();
        gate.room(4);
        gate.packet(0, 50, 1, 11, 0, 0, 0);
        to(gate, 12);
        gate.packet(0, 6, 1, 13, 0, 0, 2);
        to(gate, 14);
        gate.now(1);
        to(gate, 12);
        // Due are 600, 31, 120, 30.
        to(gate, 15);
        CHECKS.same("the last one went", dests(gate), "11 12 13 15");
        back(gate, 12);
        back(gate, 15);
        // Due of those not answered are 600 and 120, though one that is answered has 181.
        to(gate, 16);
        CHECKS.same("the third went", dests(gate), "11 12 15 16");
        back(gate, 16);
        to(gate, 17);
        CHECKS.same("the first went", dests(gate), "12 15 16 17");
        CHECKS.same("so many went", gate.count(6), 3);
    }

    private static void oldestOfSeveral() {
        terms("(of several the oldest)");
        GateHouse gate = open();
        gate.room(3);
        to(gate, 11);
        to(gate, 12);
        to(gate, 13);
        to(gate, 14);
        CHECKS.same("all the same: the first", dests(gate), "12 13 14");
        back(gate, 12);
        to(gate, 15);
        CHECKS.same("the oldest that is not answered", dests(gate), "12 14 15");
        // One that is stepped does not get younger.
        to(gate, 14);
        to(gate, 16);
        CHECKS.same("the older one", dests(gate), "12 15 16");
    }

    private static void allAnswered() {
        terms("if all are ANSWERED, the packet is dropped instead (FULL)");
        GateHouse gate = open();
        gate.room(2);
        to(gate, 11);
        to(gate, 12);
        back(gate, 11);
        back(gate, 12);
        CHECKS.same("full", to(gate, 13), 16);
        CHECKS.same("nothing went", dests(gate), "11 12");
        CHECKS.same("nothing went", gate.count(6), 0);
        CHECKS.same("one was full", gate.count(7), 1);
        // A reset is answered too; a TCP that begins again is not.
        gate.room(1);
        gate.packet(0, 6, 1, 2, 3, 4, 2);
        gate.packet(0, 6, 2, 1, 4, 3, 4);
        CHECKS.same("closed, but answered", to(gate, 13), 16);
        gate.packet(0, 6, 1, 2, 3, 4, 2);
        CHECKS.same("begun again", to(gate, 13), NEW);
        CHECKS.same("it went", dests(gate), "13");
    }

    /** A gate whose TCP connection has gone along a path: who sends (o, a), and with which flags. */
    private static GateHouse walked(String path) {
        GateHouse gate = open();
        for (String step : path.split(" ")) {
            int got = send(gate, step.charAt(0), flagsOf(step.charAt(1)));
            CHECKS.same(step + " of " + path, got == NEW || got == ESTABLISHED, true);
        }
        gate.now(7);
        return gate;
    }

    private static int send(GateHouse gate, char side, int flags) {
        return side == 'o' ? gate.packet(0, 6, 1, 2, 3, 4, flags) : gate.packet(1, 6, 2, 1, 4, 3, flags);
    }

    private static int flagsOf(char sign) {
        return "NFS.R...........A.B".indexOf(sign);
    }

    /** What may come behind a path, each with the phase, whose FIN came first and due then; all else is INVALID. */
    private static void phase(String path, String... steps) {
        for (char side : new char[] {'o', 'a'}) {
            for (char sign : "RSBFAN".toCharArray()) {
                GateHouse gate = walked(path);
                String what = "" + side + sign;
                String before = Checks.connection(gate, 0, 5);
                boolean answered = gate.connection(0, 6) == 1 || side == 'a';
                String due = null;
                for (String step : steps) {
                    due = step.startsWith(what) ? step.substring(3) : due;
                }
                int got = send(gate, side, flagsOf(sign));
                what = path + " then " + what;
                if (due == null) {
                    CHECKS.same(what, got, INVALID);
                    CHECKS.same("stays: " + what, Checks.connection(gate, 0, 5), before);
                    continue;
                }
                boolean again = due.charAt(0) == '1';
                String[] parts = due.split(" ");
                int time = 7 + Integer.parseInt(parts[2]);
                CHECKS.same(what, got, answered && !again ? ESTABLISHED : NEW);
                CHECKS.same("goes on: " + what, Checks.connection(gate, 0, 5),
                        parts[0] + (answered && !again ? " 1 " : " 0 ") + parts[1] + " " + time);
            }
        }
    }

    private static void whatComes() {
        terms("What comes is, of ORIGIN or ANSWER: R with RST; S: SYN, no ACK, no RST; B: SYN and ACK, no RST;"
                + " F: FIN, no SYN, no RST; A: ACK, no SYN, FIN, RST; N: none of these four.");
        for (int flags = 0; flags < 64; flags++) {
            // Bits 8 and 32 are none of the four: what is left tells what comes.
            int four = flags & 23;
            char sign = (four & 4) != 0 ? 'R' : four == 2 || four == 3 ? 'S' : four == 18 || four == 19 ? 'B'
                    : four == 1 || four == 17 ? 'F' : four == 16 ? 'A' : 'N';
            String due = sign == 'R' ? "7 1 0 17" : sign == 'S' || sign == 'B' || sign == 'N' ? "3 1 0 3600"
                    : sign == 'F' ? "4 1 2 127" : "3 1 0 3607";
            GateHouse gate = walked("oS aB oA");
            int got = send(gate, 'a', flags);
            CHECKS.same("OPEN, flags " + flags, got, sign == 'S' || sign == 'B' || sign == 'N' ? INVALID : ESTABLISHED);
            CHECKS.same("OPEN behind flags " + flags, Checks.connection(gate, 0, 5), due);
            String sent = sign == 'R' ? "7 1 0 17" : sign == 'B' ? "2 1 0 67" : "1 0 0 120";
            GateHouse other = walked("oS");
            send(other, 'a', flags);
            CHECKS.same("SENT behind flags " + flags, Checks.connection(other, 0, 5), sent);
            GateHouse third = walked("oS");
            CHECKS.same("SENT, flags " + flags, send(third, 'o', flags), sign == 'S' ? NEW : INVALID);
        }
    }

    private static void phaseSent() {
        terms("1 SENT (at its beginning; 120): ORIGIN S stays; ANSWER B 2, R 7; all else -.");
        phase("oS", "oS 1 0 120", "aB 2 0 60", "aR 7 0 10");
        phase("oS oS", "oS 1 0 120", "aB 2 0 60", "aR 7 0 10");
    }

    private static void phaseMet() {
        terms("2 MET (60): ORIGIN S stays, A 3, F 4 (ORIGIN's first), R 7; ANSWER B stays, R 7; all else -.");
        phase("oS aB", "oS 2 0 60", "oA 3 0 3600", "oF 4 1 120", "oR 7 0 10", "aB 2 0 60", "aR 7 0 10");
        phase("oS aB oS aB", "oS 2 0 60", "oA 3 0 3600", "oF 4 1 120", "oR 7 0 10", "aB 2 0 60", "aR 7 0 10");
    }

    private static void phaseOpen() {
        terms("3 OPEN (3600): A stays, F 4 (its first), R 7; S, B, N -.");
        phase("oS aB oA", "oA 3 0 3600", "aA 3 0 3600", "oF 4 1 120", "aF 4 2 120", "oR 7 0 10", "aR 7 0 10");
        phase("oS aB oA aA oA", "oA 3 0 3600", "aA 3 0 3600", "oF 4 1 120", "aF 4 2 120", "oR 7 0 10", "aR 7 0 10");
    }

    private static void phaseClosing() {
        terms("4 CLOSING (120): F of the one whose FIN came first stays, of the other one 5; A stays; R 7; S, B, N -.");
        phase("oS aB oF", "oF 4 1 120", "aF 5 1 30", "oA 4 1 120", "aA 4 1 120", "oR 7 1 10", "aR 7 1 10");
        phase("oS aB oA oF oF aA", "oF 4 1 120", "aF 5 1 30", "oA 4 1 120", "aA 4 1 120", "oR 7 1 10", "aR 7 1 10");
        phase("oS aB oA aF", "aF 4 2 120", "oF 5 2 30", "oA 4 2 120", "aA 4 2 120", "oR 7 2 10", "aR 7 2 10");
    }

    private static void phaseLast() {
        terms("5 LAST (30): A of the one whose FIN came first 6; F and other A stay; R 7; S, B, N -.");
        phase("oS aB oA oF aF", "oA 6 1 120", "aA 5 1 30", "oF 5 1 30", "aF 5 1 30", "oR 7 1 10", "aR 7 1 10");
        phase("oS aB oA aF oF", "aA 6 2 120", "oA 5 2 30", "oF 5 2 30", "aF 5 2 30", "oR 7 2 10", "aR 7 2 10");
    }

    private static void phaseWait() {
        terms("6 WAIT (120): ORIGIN S: 1, as at its beginning (not ANSWERED, no FIN; it is NEW then);"
                + " A and F stay; R 7; all else -.");
        phase("oS aB oA oF aF oA", "oS 1 0 120", "oA 6 1 120", "aA 6 1 120", "oF 6 1 120", "aF 6 1 120", "oR 7 1 10", "aR 7 1 10");
        phase("oS aB oA aF oF aA", "oS 1 0 120", "oA 6 2 120", "aA 6 2 120", "oF 6 2 120", "aF 6 2 120", "oR 7 2 10", "aR 7 2 10");
    }

    private static void phaseClosed() {
        terms("7 CLOSED (10): ORIGIN S as in 6; R stays; all else -.");
        phase("oS aR", "oS 1 0 120", "oR 7 0 10", "aR 7 0 10");
        phase("oS aB oR", "oS 1 0 120", "oR 7 0 10", "aR 7 0 10");
        phase("oS aB oA aF oR aR", "oS 1 0 120", "oR 7 2 10", "aR 7 2 10");
    }

    private static void againAsAtItsBeginning() {
        terms("1, as at its beginning (not ANSWERED, no FIN; it is NEW then)");
        for (String path : new String[] {"oS aR", "oS aB oA oF aF oA"}) {
            GateHouse gate = walked(path + " oS");
            CHECKS.same("begun again", Checks.connection(gate, 0, 0), "6 1 2 3 4 1 0 0 120");
            CHECKS.same("an answer", send(gate, 'a', 18), ESTABLISHED);
            CHECKS.same("a phase on", Checks.connection(gate, 0, 5), "2 1 0 67");
            CHECKS.same("its FIN", send(gate, 'o', 1), ESTABLISHED);
            CHECKS.same("is the first", Checks.connection(gate, 0, 5), "4 1 1 127");
        }
        // NEW is what the list is asked about; where it does not accept that, nothing changes.
        GateHouse gate = open();
        send(gate, 'o', 2);
        send(gate, 'a', 4);
        Checks.load(gate, 0, "policy accept; drop state new;");
        CHECKS.same("dropped", send(gate, 'o', 2), 0);
        CHECKS.same("stays closed", Checks.connection(gate, 0, 5), "7 1 0 10");
        // It is the same connection, as old as it was, and no room is made for it.
        GateHouse three = open();
        three.room(2);
        send(three, 'o', 2);
        send(three, 'a', 4);
        to(three, 9);
        CHECKS.same("again", send(three, 'o', 2), NEW);
        CHECKS.same("in its place", dests(three), "2 9");
        CHECKS.same("none went", three.count(6), 0);
    }

    private static void otherTimes() {
        terms("Others: PHASE 0; UDP 30, ANSWERED 180; ICMP 30; all else 600.");
        int[][] due = {{17, 30, 180}, {0, 600, 600}, {2, 600, 600}, {5, 600, 600}, {7, 600, 600}, {16, 600, 600},
            {18, 600, 600}, {255, 600, 600}};
        for (int[] d : due) {
            GateHouse gate = open();
            gate.now(1000);
            gate.packet(0, d[0], 1, 2, 3, 4, 0);
            CHECKS.same("proto " + d[0], Checks.connection(gate, 0, 5), "0 0 0 " + (1000 + d[1]));
            gate.packet(0, d[0], 2, 1, 4, 3, 0);
            CHECKS.same("answered " + d[0], Checks.connection(gate, 0, 5), "0 1 0 " + (1000 + d[2]));
            gate.packet(0, d[0], 1, 2, 3, 4, 0);
            CHECKS.same("origin " + d[0], Checks.connection(gate, 0, 5), "0 1 0 " + (1000 + d[2]));
        }
        GateHouse gate = open();
        gate.packet(0, 1, 1, 2, 8 * 256, 77, 0);
        CHECKS.same("icmp", Checks.connection(gate, 0, 5), "0 0 0 30");
        gate.packet(0, 1, 2, 1, 0, 77, 0);
        CHECKS.same("icmp answered", Checks.connection(gate, 0, 5), "0 1 0 30");
    }

    private static void nowSet() {
        CHECKS.sentence("Promise 15", "NOW is that: true");
        GateHouse gate = open();
        for (int time : new int[] {0, 0, 1, 1, 999999999, 1000000000, 1000000000}) {
            CHECKS.same("now " + time, gate.now(time), true);
            CHECKS.same("it is", gate.count(2), time);
        }
    }

    private static void nowRefused() {
        CHECKS.sentence("Promise 15", "false, if it is before NOW or above 1000000000.");
        GateHouse gate = open();
        for (int time : new int[] {-1, LEAST, 1000000001, MOST}) {
            CHECKS.same("now " + time, gate.now(time), false);
            CHECKS.same("it is", gate.count(2), 0);
        }
        gate.now(100);
        to(gate, 2);
        for (int time : new int[] {99, 0, -1, LEAST, 1000000001, MOST}) {
            CHECKS.same("now " + time, gate.now(time), false);
            CHECKS.same("it is", gate.count(2), 100);
            CHECKS.same("no connection goes", gate.count(4), 1);
        }
    }

    private static void roomSet() {
        CHECKS.sentence("Promise 16", "ROOM is n: true, and all CONNECTIONS go");
        GateHouse gate = open();
        for (int n : new int[] {8, 1, 64, 64, 2, 63}) {
            to(gate, 2);
            back(gate, 2);
            CHECKS.same("room " + n, gate.room(n), true);
            CHECKS.same("it is", gate.count(3), n);
            CHECKS.same("all go", gate.count(4), 0);
            CHECKS.refused("they are not there", NoSuchElementException.class, () -> gate.connection(0, 0));
        }
        CHECKS.same("none went to make room", gate.count(6), 0);
        CHECKS.same("a packet of it is new", back(gate, 2), NEW);
    }

    private static void roomRefused() {
        CHECKS.sentence("Promise 16", "false, if it is not 1 .. 64.");
        GateHouse gate = open();
        to(gate, 2);
        for (int n : new int[] {0, 65, -1, MOST, LEAST}) {
            CHECKS.same("room " + n, gate.room(n), false);
            CHECKS.same("it is", gate.count(3), 8);
            CHECKS.same("no connection goes", gate.count(4), 1);
        }
    }

    private static void packetAnswers() {
        CHECKS.sentence("Promise 17", "A packet comes: its ACTION, and 4 times its STATE");
        String[] actions = {"drop", "accept", "reject"};
        for (int action = 0; action < 3; action++) {
            GateHouse gate = open();
            gate.packet(0, 17, 1, 2, 3, 4, 0);
            Checks.load(gate, 0, actions[action] + ";");
            CHECKS.same("new", gate.packet(0, 50, 1, 2, 3, 4, 0), action);
            CHECKS.same("established", gate.packet(0, 17, 2, 1, 4, 3, 0), action + 4);
            CHECKS.same("related", send(gate, 0, report(datagram(0, 17, 1, 2, udp(3, 4, 0)))), action + 8);
            CHECKS.same("invalid", gate.packet(0, 6, 1, 2, 3, 4, 16), action + 12);
        }
    }

    private static void packetFull() {
        CHECKS.sentence("Promise 17", "and 16, if it was FULL (its ACTION is 0 then; the RULE was told).");
        GateHouse gate = Checks.gateWith("policy reject; accept in 0;");
        gate.room(1);
        to(gate, 2);
        back(gate, 2);
        CHECKS.same("full", to(gate, 3), 16);
        CHECKS.same("full, a SYN", gate.packet(0, 6, 1, 2, 3, 4, 2), 16);
        CHECKS.same("the rule was told", gate.rule(0, 0, 14), 4);
        CHECKS.same("the policy was not", gate.rule(0, NONE, 14), 0);
        CHECKS.same("a datagram", send(gate, 0, datagram(0, 50, 1, 2, new byte[0])), 16);
        CHECKS.same("full ones", gate.count(7), 3);
        CHECKS.same("they came", gate.count(5), 5);
        CHECKS.same("the latest one is packed", gate.pack(), 20);
        CHECKS.same("one that is of it", to(gate, 2), ESTABLISHED);
    }

    private static void packetRefused() {
        CHECKS.sentence("Promise 17", "IllegalArgumentException: a FIELD is none.");
        Class<IllegalArgumentException> wrong = IllegalArgumentException.class;
        GateHouse gate = open();
        for (int in : new int[] {-1, 4, MOST, LEAST}) {
            CHECKS.refused("in " + in, wrong, () -> gate.packet(in, 0, 0, 0, 0, 0, 0));
        }
        for (int proto : new int[] {-1, 256, MOST, LEAST}) {
            CHECKS.refused("proto " + proto, wrong, () -> gate.packet(0, proto, 0, 0, 0, 0, 0));
        }
        for (int port : new int[] {-1, 65536, MOST, LEAST}) {
            CHECKS.refused("sport " + port, wrong, () -> gate.packet(0, 0, 0, 0, port, 0, 0));
            CHECKS.refused("dport " + port, wrong, () -> gate.packet(0, 0, 0, 0, 0, port, 0));
        }
        for (int flags : new int[] {-1, 64, MOST, LEAST}) {
            CHECKS.refused("flags " + flags, wrong, () -> gate.packet(0, 0, 0, 0, 0, 0, flags));
        }
        CHECKS.same("none came", gate.count(5), 0);
        // The edges of the fields, and every address.
        CHECKS.same("the least", gate.packet(0, 0, 0, 0, 0, 0, 0), NEW);
        CHECKS.same("the most", gate.packet(3, 255, -1, -1, 65535, 65535, 63), NEW);
        CHECKS.same("other addresses", gate.packet(3, 255, LEAST, MOST, 65535, 65535, 63), NEW);
    }

    private static void connectionParts() {
        CHECKS.sentence("Promise 20", "0 PROTO, 1 SRC, 2 DST, 3 SPORT, 4 DPORT, 5 PHASE, 6 whether it is ANSWERED,"
                + " 7 whose FIN came first, 8 DUE.");
        GateHouse gate = open();
        gate.now(999999999);
        gate.packet(0, 6, LEAST, -1, 65535, 1, 2);
        int[] begun = {6, LEAST, -1, 65535, 1, 1, 0, 0, 1000000119};
        for (int what = 0; what < 9; what++) {
            CHECKS.same("begun, " + what, gate.connection(0, what), begun[what]);
        }
        gate.packet(0, 6, -1, LEAST, 1, 65535, 18);
        gate.packet(0, 6, LEAST, -1, 65535, 1, 16);
        gate.packet(0, 6, -1, LEAST, 1, 65535, 17);
        int[] closing = {6, LEAST, -1, 65535, 1, 4, 1, 2, 1000000119};
        for (int what = 0; what < 9; what++) {
            CHECKS.same("closing, " + what, gate.connection(0, what), closing[what]);
        }
    }

    private static void connectionOrder() {
        CHECKS.sentence("Promise 20", "Of CONNECTION i (from the oldest on)");
        GateHouse gate = open();
        gate.room(64);
        for (int k = 0; k < 64; k++) {
            gate.packet(0, k % 2 == 0 ? 17 : 50, 1, 100 + k, 5, 6, 0);
        }
        for (int k = 0; k < 64; k++) {
            CHECKS.same("connection " + k, gate.connection(k, 2), 100 + k);
        }
        // Steps do not change the order; those that go close up.
        gate.packet(0, 50, 1, 101, 5, 6, 0);
        back(gate, 102);
        gate.now(30);
        CHECKS.same("so many are left", gate.count(4), 33);
        CHECKS.same("the oldest", gate.connection(0, 2), 101);
        CHECKS.same("the second", gate.connection(1, 2), 102);
        CHECKS.same("the third", gate.connection(2, 2), 103);
        CHECKS.same("the newest", gate.connection(32, 2), 163);
        to(gate, 99);
        CHECKS.same("one that begins is the newest", gate.connection(33, 2), 99);
    }

    private static void connectionRefused() {
        CHECKS.sentence("Promise 20", "NoSuchElementException: there is none such, or another what.");
        Class<NoSuchElementException> none = NoSuchElementException.class;
        GateHouse gate = open();
        CHECKS.refused("of none", none, () -> gate.connection(0, 0));
        to(gate, 2);
        to(gate, 3);
        CHECKS.same("the last one", gate.connection(1, 8), 30);
        for (int i : new int[] {-1, 2, 8, 63, 64, MOST, LEAST}) {
            CHECKS.refused("connection " + i, none, () -> gate.connection(i, 0));
        }
        for (int what : new int[] {-1, 9, 10, MOST, LEAST}) {
            CHECKS.refused("what " + what, none, () -> gate.connection(1, what));
        }
        gate.now(30);
        CHECKS.refused("of one that has gone", none, () -> gate.connection(0, 0));
    }
}
