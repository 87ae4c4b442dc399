import java.util.NoSuchElementException;

/** Promises 15, 16, 17, 20 and 21: time, room, packets and the table of connections. */
public final class ConnectionTest {
    private static final Checks CHECKS = new Checks();
    private static final int FIN = 1;
    private static final int SYN = 2;
    private static final int RST = 4;
    private static final int ACK = 16;
    // Answers of packet(): accepted in one of the states.
    private static final int NEW = 1;
    private static final int ESTABLISHED = 5;
    private static final int INVALID = 13;

    public static void main(String[] args) {
        times();
        rooms();
        wrongPackets();
        actionsAndTold();
        firstTcpPackets();
        tcpTable();
        tcpAgain();
        tcpRefused();
        udp();
        icmp();
        others();
        ownAnswer();
        makingRoom();
        full();
        wrongConnections();
        CHECKS.end();
    }

    private static GateHouse open() {
        return Checks.gateWith("policy accept;");
    }

    private static void times() {
        GateHouse gate = open();
        CHECKS.same("now 0", gate.now(0), true);
        CHECKS.same("below 0", gate.now(-1), false);
        CHECKS.same("later", gate.now(10), true);
        CHECKS.same("before", gate.now(9), false);
        CHECKS.same("the same", gate.now(10), true);
        CHECKS.same("above", gate.now(1000000001), false);
        CHECKS.same("far above", gate.now(Integer.MAX_VALUE), false);
        CHECKS.same("time stays", gate.count(2), 10);
        gate.packet(0, 17, 1, 2, 3, 4, 0);
        gate.packet(0, 50, 1, 2, 3, 4, 0);
        CHECKS.same("due", gate.connection(0, 8), 40);
        gate.now(39);
        CHECKS.same("ahead of due", gate.count(4), 2);
        gate.now(40);
        CHECKS.same("at due", gate.count(4), 1);
        CHECKS.same("the other one stays", Checks.connection(gate, 0, 0), "50 1 2 3 4 0 0 0 610");
        CHECKS.same("the last time", gate.now(1000000000), true);
        CHECKS.same("long behind due", gate.count(4), 0);
        gate.packet(0, 50, 1, 2, 3, 4, 0);
        CHECKS.same("the latest due", gate.connection(0, 8), 1000000600);
        CHECKS.same("none made room", gate.count(6), 0);
    }

    private static void rooms() {
        GateHouse gate = open();
        CHECKS.same("at first", gate.count(3), 8);
        gate.packet(0, 17, 1, 2, 3, 4, 0);
        for (int n : new int[] {0, -1, 65, Integer.MAX_VALUE, Integer.MIN_VALUE}) {
            CHECKS.same("room " + n, gate.room(n), false);
        }
        CHECKS.same("room stays", gate.count(3), 8);
        CHECKS.same("connections stay", gate.count(4), 1);
        CHECKS.same("room 8", gate.room(8), true);
        CHECKS.same("connections go", gate.count(4), 0);
        CHECKS.same("room 64", gate.room(64), true);
        for (int k = 0; k < 70; k++) {
            gate.packet(0, 17, 1, 2, 3, k, 0);
        }
        CHECKS.same("64 connections", gate.count(4), 64);
        CHECKS.same("the oldest", gate.connection(0, 4), 6);
        CHECKS.same("the newest", gate.connection(63, 4), 69);
        CHECKS.same("room 1", gate.room(1), true);
        gate.packet(0, 17, 1, 2, 3, 4, 0);
        gate.packet(0, 17, 1, 2, 3, 5, 0);
        CHECKS.same("one connection", gate.count(4), 1);
        CHECKS.same("made room", gate.count(6), 7);
    }

    private static void wrongPackets() {
        GateHouse gate = open();
        int[][] fields = {{-1, 0, 0, 0, 0}, {4, 0, 0, 0, 0}, {0, -1, 0, 0, 0}, {0, 256, 0, 0, 0}, {0, 0, -1, 0, 0},
            {0, 0, 65536, 0, 0}, {0, 0, 0, -1, 0}, {0, 0, 0, 65536, 0}, {0, 0, 0, 0, -1}, {0, 0, 0, 0, 64},
            {Integer.MIN_VALUE, 0, 0, 0, 0}, {0, 0, 0, 0, Integer.MAX_VALUE}};
        for (int[] f : fields) {
            CHECKS.refused("packet", IllegalArgumentException.class,
                    () -> gate.packet(f[0], f[1], 0, 0, f[2], f[3], f[4]));
        }
        CHECKS.same("none came", gate.count(5), 0);
        CHECKS.same("none was told", gate.rule(0, GateHouse.NONE, 14), 0);
        CHECKS.refused("none to pack", NoSuchElementException.class, () -> gate.pack());
        CHECKS.same("the highest fields", gate.packet(3, 255, -1, -1, 65535, 65535, 63), NEW);
    }

    private static void actionsAndTold() {
        GateHouse gate = Checks.gateWith("policy reject; drop in 1; accept in 2 state new; accept in 3 state invalid;");
        CHECKS.same("drop", gate.packet(1, 17, 1, 2, 3, 4, 0), 0);
        CHECKS.same("reject", gate.packet(0, 17, 1, 2, 3, 4, 0), 2);
        CHECKS.same("nothing has begun", gate.count(4), 0);
        CHECKS.same("accept", gate.packet(2, 17, 1, 2, 3, 4, 0), 1);
        CHECKS.same("answer is rejected", gate.packet(2, 17, 2, 1, 4, 3, 0), 6);
        CHECKS.same("and steps nothing", gate.connection(0, 6), 0);
        CHECKS.same("invalid", gate.packet(3, 6, 2, 1, 4, 3, RST), 13);
        CHECKS.same("begins nothing", gate.count(4), 1);
        CHECKS.same("invalid, dropped", gate.packet(1, 6, 2, 1, 4, 3, RST), 12);
        int[] told = {2, 1, 1};
        for (int i = 0; i < 3; i++) {
            CHECKS.same("told " + i, gate.rule(0, i, 14), told[i]);
        }
        CHECKS.same("policy told", gate.rule(0, GateHouse.NONE, 14), 2);
        CHECKS.same("came", gate.count(5), 6);
        // A load of another list leaves what was told, one of this list does not touch connections.
        Checks.load(gate, 1, "drop;");
        CHECKS.same("told stays", gate.rule(0, 0, 14), 2);
        Checks.load(gate, 0, "drop;");
        CHECKS.same("told goes", gate.rule(0, 0, 14), 0);
        CHECKS.same("connections stay", gate.count(4), 1);
    }

    private static void firstTcpPackets() {
        for (int flags = 0; flags < 64; flags++) {
            GateHouse gate = open();
            boolean may = (flags & (SYN | FIN | RST | ACK)) == SYN;
            CHECKS.same("first flags " + flags, gate.packet(0, 6, 1, 2, 3, 4, flags), may ? NEW : INVALID);
            CHECKS.same("begun by " + flags, gate.count(4), may ? 1 : 0);
            if (may) {
                CHECKS.same("as begun by " + flags, Checks.connection(gate, 0, 0), "6 1 2 3 4 1 0 0 120");
            }
        }
    }

    // How each phase is come to: o and a are the origin's and the answer's, then what comes.
    private static final String[] PATHS = {"oS", "oS aB", "oS aB oA", "oS aB oA oF", "oS aB oA aF", "oS aB oA oF aF",
        "oS aB oA aF oF", "oS aB oA oF aF oA", "oS aB oA aF oF aA", "oS aB oA oR", "oS aR"};
    // What may come then, and the phase and whose FIN came first behind it.
    private static final String[] STEPS = {
        "oS10 aB20 aR70",
        "oS20 oA30 oF41 oR70 aB20 aR70",
        "oA30 aA30 oF41 aF42 oR70 aR70",
        "oF41 aF51 oA41 aA41 oR71 aR71",
        "aF42 oF52 oA42 aA42 oR72 aR72",
        "oA61 aA51 oF51 aF51 oR71 aR71",
        "aA62 oA52 oF52 aF52 oR72 aR72",
        "oS10 oA61 aA61 oF61 aF61 oR71 aR71",
        "oS10 oA62 aA62 oF62 aF62 oR72 aR72",
        "oS10 oR70 aR70",
        "oS10 oR70 aR70"};
    private static final int[] LIVES = {0, 120, 60, 3600, 120, 30, 120, 10};

    private static int flags(char sign) {
        switch (sign) {
            case 'R': return RST;
            case 'S': return SYN;
            case 'B': return SYN | ACK;
            case 'F': return FIN;
            case 'A': return ACK;
            default: return 0;
        }
    }

    /** Which of the signs a set of flags is, by the words of the document. */
    private static char sign(int flags) {
        boolean syn = (flags & SYN) != 0;
        boolean ack = (flags & ACK) != 0;
        boolean fin = (flags & FIN) != 0;
        boolean rst = (flags & RST) != 0;
        char sign = 'N';
        sign = rst ? 'R' : sign;
        sign = syn && !ack && !rst ? 'S' : sign;
        sign = syn && ack && !rst ? 'B' : sign;
        sign = fin && !syn && !rst ? 'F' : sign;
        sign = ack && !syn && !fin && !rst ? 'A' : sign;
        return sign;
    }

    private static int send(GateHouse gate, char side, int flags) {
        return side == 'o' ? gate.packet(0, 6, 1, 2, 3, 4, flags) : gate.packet(1, 6, 2, 1, 4, 3, flags);
    }

    private static GateHouse walked(String path) {
        GateHouse gate = open();
        for (String step : path.split(" ")) {
            send(gate, step.charAt(0), flags(step.charAt(1)));
        }
        gate.now(5);
        return gate;
    }

    private static void tcpTable() {
        for (int k = 0; k < PATHS.length; k++) {
            for (int flags = 0; flags < 64; flags++) {
                oneStep(k, 'o', flags);
                oneStep(k, 'a', flags);
            }
        }
    }

    private static void oneStep(int k, char side, int flags) {
        GateHouse gate = walked(PATHS[k]);
        String what = PATHS[k] + " then " + side + flags;
        String before = Checks.connection(gate, 0, 0);
        boolean answered = gate.connection(0, 6) == 1;
        int phase = 0;
        int fin = 0;
        for (String step : STEPS[k].split(" ")) {
            if (step.charAt(0) == side && step.charAt(1) == sign(flags)) {
                phase = step.charAt(2) - '0';
                fin = step.charAt(3) - '0';
            }
        }
        int got = send(gate, side, flags);
        CHECKS.same("connections behind " + what, gate.count(4), 1);
        if (phase == 0) {
            CHECKS.same(what, got, INVALID);
            CHECKS.same("stays behind " + what, Checks.connection(gate, 0, 0), before);
            return;
        }
        boolean answeredThen = phase != 1 && (answered || side == 'a');
        CHECKS.same(what, got, answeredThen ? ESTABLISHED : NEW);
        CHECKS.same("connection behind " + what, Checks.connection(gate, 0, 0),
                "6 1 2 3 4 " + phase + " " + (answeredThen ? 1 : 0) + " " + fin + " " + (5 + LIVES[phase]));
    }

    /** One that begins again stays where it is among the others. */
    private static void tcpAgain() {
        GateHouse gate = open();
        gate.packet(0, 6, 1, 2, 3, 4, SYN);
        gate.packet(0, 6, 2, 1, 4, 3, RST);
        gate.packet(0, 17, 1, 2, 3, 4, 0);
        CHECKS.same("closed", Checks.connection(gate, 0, 5), "7 1 0 10");
        gate.now(9);
        CHECKS.same("again", gate.packet(0, 6, 1, 2, 3, 4, SYN), NEW);
        CHECKS.same("as at its beginning", Checks.connection(gate, 0, 0), "6 1 2 3 4 1 0 0 129");
        CHECKS.same("connections", gate.count(4), 2);
        CHECKS.same("a SYN of the answer is of it", gate.packet(0, 6, 2, 1, 4, 3, SYN), INVALID);
    }

    /** Only what is accepted steps a connection. */
    private static void tcpRefused() {
        GateHouse gate = Checks.gateWith("policy accept; drop in 1; reject state established dport 3;");
        gate.packet(0, 6, 1, 2, 3, 4, SYN);
        CHECKS.same("answer is dropped", gate.packet(1, 6, 2, 1, 4, 3, SYN | ACK), 4);
        CHECKS.same("answer is rejected", gate.packet(0, 6, 2, 1, 4, 3, SYN | ACK), 6);
        CHECKS.same("connection stays", Checks.connection(gate, 0, 5), "1 0 0 120");
    }

    private static void udp() {
        GateHouse gate = open();
        gate.packet(0, 17, -5, 6, 7, 8, 63);
        CHECKS.same("begun", Checks.connection(gate, 0, 0), "17 4294967291 6 7 8 0 0 0 30");
        CHECKS.same("as an int", gate.connection(0, 1), -5);
        gate.now(1);
        CHECKS.same("again", gate.packet(3, 17, -5, 6, 7, 8, 0), NEW);
        CHECKS.same("stepped", Checks.connection(gate, 0, 5), "0 0 0 31");
        gate.now(2);
        CHECKS.same("answer", gate.packet(2, 17, 6, -5, 8, 7, 0), ESTABLISHED);
        CHECKS.same("answered", Checks.connection(gate, 0, 5), "0 1 0 182");
        gate.now(3);
        CHECKS.same("origin then", gate.packet(0, 17, -5, 6, 7, 8, 0), ESTABLISHED);
        CHECKS.same("stays answered", Checks.connection(gate, 0, 5), "0 1 0 183");
        int[][] apart = {{18, -5, 6, 7, 8}, {17, -4, 6, 7, 8}, {17, -5, 7, 7, 8}, {17, -5, 6, 8, 8}, {17, -5, 6, 7, 9},
            {17, 6, -5, 7, 8}};
        for (int k = 0; k < apart.length; k++) {
            int[] p = apart[k];
            CHECKS.same("one apart", gate.packet(0, p[0], p[1], p[2], p[3], p[4], 0), NEW);
            CHECKS.same("connections", gate.count(4), k + 2);
        }
        CHECKS.same("answer of the last one", gate.packet(0, 17, -5, 6, 8, 7, 0), ESTABLISHED);
    }

    private static void icmp() {
        GateHouse gate = open();
        for (int type = 0; type < 256; type++) {
            if (type != 8) {
                CHECKS.same("type " + type, gate.packet(0, 1, 1, 2, type * 256, 77, 0), INVALID);
            }
        }
        CHECKS.same("none has begun", gate.count(4), 0);
        CHECKS.same("echo", gate.packet(0, 1, 1, 2, 8 * 256 + 5, 77, 0), NEW);
        CHECKS.same("begun", Checks.connection(gate, 0, 0), "1 1 2 2053 77 0 0 0 30");
        gate.now(1);
        CHECKS.same("echo, SPORT aside", gate.packet(0, 1, 1, 2, 8 * 256, 77, 0), NEW);
        CHECKS.same("stepped", Checks.connection(gate, 0, 0), "1 1 2 2053 77 0 0 0 31");
        CHECKS.same("answer with another DPORT", gate.packet(0, 1, 2, 1, 0, 78, 0), INVALID);
        CHECKS.same("answer of the origin", gate.packet(0, 1, 1, 2, 0, 77, 0), INVALID);
        CHECKS.same("answer", gate.packet(0, 1, 2, 1, 9, 77, 0), ESTABLISHED);
        CHECKS.same("answered", Checks.connection(gate, 0, 5), "0 1 0 31");
        CHECKS.same("echo then", gate.packet(0, 1, 1, 2, 8 * 256, 77, 0), ESTABLISHED);
        CHECKS.same("echo the other way", gate.packet(0, 1, 2, 1, 8 * 256, 77, 0), NEW);
        CHECKS.same("is another one", gate.count(4), 2);
        CHECKS.same("no report without what it tells", gate.packet(0, 1, 2, 1, 3 * 256, 77, 0), INVALID);
    }

    private static void others() {
        GateHouse gate = open();
        CHECKS.same("other", gate.packet(0, 50, 1, 2, 3, 4, 5), NEW);
        CHECKS.same("begun", Checks.connection(gate, 0, 0), "50 1 2 3 4 0 0 0 600");
        gate.now(599);
        CHECKS.same("answer", gate.packet(0, 50, 2, 1, 4, 3, 0), ESTABLISHED);
        CHECKS.same("answered", Checks.connection(gate, 0, 5), "0 1 0 1199");
        CHECKS.same("0 is a protocol", gate.packet(0, 0, 0, 0, 0, 0, 0), NEW);
        CHECKS.same("begun", Checks.connection(gate, 1, 0), "0 0 0 0 0 0 0 0 1199");
    }

    /** What is both is the origin's. */
    private static void ownAnswer() {
        GateHouse gate = open();
        gate.packet(0, 17, 9, 9, 5, 5, 0);
        CHECKS.same("again", gate.packet(0, 17, 9, 9, 5, 5, 0), NEW);
        CHECKS.same("not answered", gate.connection(0, 6), 0);
    }

    private static void makingRoom() {
        GateHouse gate = open();
        gate.room(4);
        gate.packet(0, 50, 1, 1, 0, 0, 0);
        gate.packet(0, 17, 1, 2, 0, 0, 0);
        gate.packet(0, 17, 1, 3, 0, 0, 0);
        gate.packet(0, 17, 1, 4, 0, 0, 0);
        // The second one is answered: of the last two, with the same due, the older one goes.
        gate.packet(0, 17, 2, 1, 0, 0, 0);
        CHECKS.same("one more", gate.packet(0, 17, 1, 5, 0, 0, 0), NEW);
        CHECKS.same("made room", gate.count(6), 1);
        int[] left = {1, 2, 4, 5};
        for (int k = 0; k < 4; k++) {
            CHECKS.same("left " + k, gate.connection(k, 2), left[k]);
        }
        gate.now(3);
        gate.packet(0, 17, 1, 4, 0, 0, 0);
        CHECKS.same("one more", gate.packet(0, 6, 1, 6, 0, 0, SYN), NEW);
        left = new int[] {1, 2, 4, 6};
        for (int k = 0; k < 4; k++) {
            CHECKS.same("left then " + k, gate.connection(k, 2), left[k]);
        }
        CHECKS.same("dropped ones make no room", gate.packet(0, 6, 1, 7, 0, 0, ACK), INVALID);
        CHECKS.same("made room", gate.count(6), 2);
        CHECKS.same("none was full", gate.count(7), 0);
    }

    private static void full() {
        GateHouse gate = Checks.gateWith("accept in 0; reject in 1;");
        gate.room(1);
        gate.packet(0, 17, 1, 2, 3, 4, 0);
        gate.packet(0, 17, 2, 1, 4, 3, 0);
        CHECKS.same("full", gate.packet(0, 17, 5, 6, 7, 8, 0), 16);
        CHECKS.same("the rule was told", gate.rule(0, 0, 14), 3);
        CHECKS.same("full ones", gate.count(7), 1);
        CHECKS.same("came", gate.count(5), 3);
        CHECKS.same("rejected ahead of that", gate.packet(1, 17, 5, 6, 7, 8, 0), 2);
        CHECKS.same("of the connection", gate.packet(0, 17, 1, 2, 3, 4, 0), ESTABLISHED);
        CHECKS.same("full ones", gate.count(7), 1);
        CHECKS.same("none made room", gate.count(6), 0);
        gate.now(180);
        CHECKS.same("room again", gate.packet(0, 17, 5, 6, 7, 8, 0), NEW);
    }

    private static void wrongConnections() {
        GateHouse gate = open();
        gate.packet(0, 17, 1, 2, 3, 4, 0);
        Class<NoSuchElementException> none = NoSuchElementException.class;
        for (int i : new int[] {-1, 1, 64, Integer.MAX_VALUE, Integer.MIN_VALUE}) {
            CHECKS.refused("connection " + i, none, () -> gate.connection(i, 0));
        }
        for (int what : new int[] {-1, 9, Integer.MAX_VALUE, Integer.MIN_VALUE}) {
            CHECKS.refused("part " + what, none, () -> gate.connection(0, what));
        }
    }
}
