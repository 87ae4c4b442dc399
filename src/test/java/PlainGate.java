import java.nio.charset.StandardCharsets;
import java.util.ArrayList;
import java.util.Arrays;
import java.util.List;
import java.util.NoSuchElementException;

/** The face by a second, plain reading of the document, which shares no code with the class that is tested. */
final class PlainGate {
    private static final int[] PHASE_TIMES = {0, 120, 60, 3600, 120, 30, 120, 10};

    private byte[] tape = {};
    private byte[] out = {};
    private final PlainList[] lists = {new PlainList(), new PlainList(), new PlainList(), new PlainList()};
    private int fault = 0;
    private long[] point = null;
    private int time = 0;
    private int room = 8;
    private final List<Connection> connections = new ArrayList<>();
    private Packet latest = null;
    private int came = 0;
    private int went = 0;
    private int full = 0;

    /** Its fields in the document's order, the flags last. */
    static final class Packet {
        final long[] fields = new long[6];
        int flags = 0;

        int proto() {
            return (int) fields[1];
        }

        int type() {
            return (int) fields[4] / 256;
        }

        /** Its ends as one text, the way forth or back. */
        String ends(boolean back) {
            int a = back ? 3 : 2;
            int b = back ? 5 : 4;
            return fields[1] + " " + fields[a] + " " + fields[5 - a] + " " + fields[b] + " " + fields[9 - b];
        }
    }

    private static final class Connection {
        final Packet first;
        int phase;
        boolean answered = false;
        int firstFin = 0;
        int due = 0;

        Connection(Packet first) {
            this.first = first;
            phase = first.proto() == 6 ? 1 : 0;
        }

        /** 1 as ORIGIN, 2 as ANSWER, 0 not at all. */
        int sideOf(Packet p) {
            if (p.proto() == 1 && first.proto() == 1) {
                boolean same = p.fields[5] == first.fields[5];
                boolean forth = p.fields[2] == first.fields[2] && p.fields[3] == first.fields[3];
                boolean back = p.fields[2] == first.fields[3] && p.fields[3] == first.fields[2];
                return same && forth && p.type() == 8 ? 1 : same && back && p.type() == 0 ? 2 : 0;
            }
            return p.ends(false).equals(first.ends(false)) ? 1 : p.ends(true).equals(first.ends(false)) ? 2 : 0;
        }

        /** The phase that a packet leads to; 0 where - stands. */
        int phaseBehind(Packet p, int side) {
            String what = (side == 1 ? "O" : "A") + sign(p.flags);
            boolean first = side == firstFin;
            switch (phase) {
                case 1: return what.equals("OS") ? 1 : what.equals("AB") ? 2 : what.equals("AR") ? 7 : 0;
                case 2: return List.of("OS", "AB").contains(what) ? 2 : what.equals("OA") ? 3 : what.equals("OF") ? 4
                        : what.endsWith("R") ? 7 : 0;
                case 3: return what.endsWith("F") ? 4 : phaseOr(what, "A");
                case 4: return what.endsWith("F") && !first ? 5 : phaseOr(what, "AF");
                case 5: return what.endsWith("A") && first ? 6 : phaseOr(what, "AF");
                case 6: return what.equals("OS") ? 1 : phaseOr(what, "AF");
                default: return what.equals("OS") ? 1 : phaseOr(what, "");
            }
        }

        /** From phase 3 on: it stays by some signs, and R always closes it. */
        private int phaseOr(String what, String staying) {
            String sign = what.substring(1);
            return sign.equals("R") ? 7 : staying.contains(sign) ? phase : 0;
        }

        private static String sign(int flags) {
            boolean fin = (flags & 1) != 0;
            boolean syn = (flags & 2) != 0;
            boolean rst = (flags & 4) != 0;
            boolean ack = (flags & 16) != 0;
            return rst ? "R" : syn && !ack ? "S" : syn ? "B" : fin ? "F" : ack ? "A" : "N";
        }

        void step(Packet p, int side) {
            answered |= side == 2;
            if (first.proto() == 6) {
                int behind = phaseBehind(p, side);
                if (phase >= 6 && behind == 1) {
                    answered = false;
                    firstFin = 0;
                }
                firstFin = phase < 4 && behind == 4 ? side : firstFin;
                phase = behind;
            }
        }

        int lasting() {
            switch (first.proto()) {
                case 6: return PHASE_TIMES[phase];
                case 17: return answered ? 180 : 30;
                default: return first.proto() == 1 ? 30 : 600;
            }
        }
    }

    public int feed(int a, int b, int c, int d, int e) {
        if (tape.length > 2080) {
            return -1;
        }
        int size = tape.length;
        tape = Arrays.copyOf(tape, size + 20);
        int[] quads = {a, b, c, d, e};
        for (int k = 0; k < 5; k++) {
            Datagrams.quad(tape, size + 4 * k, quads[k]);
        }
        return tape.length;
    }

    public boolean end(int n) {
        if (n < 0 || n > tape.length) {
            return false;
        }
        tape = Arrays.copyOf(tape, n);
        return true;
    }

    private byte[] takeTape() {
        byte[] all = tape;
        tape = new byte[0];
        return all;
    }

    private PlainList list(int k) {
        if (k < 0 || k > 3) {
            throw new IndexOutOfBoundsException();
        }
        return lists[k];
    }

    private static void mustBe(boolean there) {
        if (!there) {
            throw new NoSuchElementException();
        }
    }

    private static void mustBeFields(int in, int proto, int sport, int dport, int last, int top) {
        int[] values = {in, proto, sport, dport, last};
        int[] tops = {3, 255, 65535, 65535, top};
        for (int k = 0; k < 5; k++) {
            if (values[k] < 0 || values[k] > tops[k]) {
                throw new IllegalArgumentException();
            }
        }
    }

    public int load(int list) {
        list(list);
        try {
            lists[list] = PlainList.read(takeTape());
            fault = 0;
            return lists[list].rules.size();
        } catch (PlainList.Fault found) {
            fault = found.kind;
            return -1 - found.place;
        }
    }

    public int fault() {
        return fault;
    }

    public int rules(int list) {
        return list(list).rules.size();
    }

    public int rule(int list, int i, int what) {
        PlainList from = list(list);
        if (i == -1) {
            mustBe(what == 0 || what == 14);
            return what == 0 ? from.policy : from.policyTold;
        }
        mustBe(i >= 0 && i < from.rules.size() && what >= 0 && what <= 14);
        PlainList.Box rule = from.rules.get(i);
        long[] parts = {rule.action, rule.states, rule.low[0], rule.high[0], rule.low[1], rule.high[1], rule.low[2],
            rule.high[2], rule.low[3], rule.high[3], rule.low[4], rule.high[4], rule.low[5], rule.high[5], rule.told};
        return (int) parts[what];
    }

    public int write(int list) {
        out = list(list).written().getBytes(StandardCharsets.ISO_8859_1);
        return out.length;
    }

    public int octet(int k) {
        mustBe(k >= 0 && k < out.length);
        return out[k] & 255;
    }

    private static Packet packetOf(int in, int proto, int src, int dst, int sport, int dport) {
        Packet p = new Packet();
        long[] fields = {in, proto, Integer.toUnsignedLong(src), Integer.toUnsignedLong(dst), sport, dport};
        System.arraycopy(fields, 0, p.fields, 0, 6);
        return p;
    }

    public int match(int list, int in, int proto, int src, int dst, int sport, int dport, int state) {
        PlainList from = list(list);
        mustBeFields(in, proto, sport, dport, state, 3);
        return from.matching(packetOf(in, proto, src, dst, sport, dport).fields, state);
    }

    /** Whether there is no such point; one that there is, is the one found latest. */
    private boolean isNone(long[] found) {
        point = found == null ? point : found;
        return found == null;
    }

    public boolean shadowed(int list, int i) {
        PlainList from = list(list);
        mustBe(i >= 0 && i < from.rules.size());
        return isNone(from.reaching(i));
    }

    public boolean alike(int one, int other) {
        return isNone(list(one).differing(list(other)));
    }

    public int found(int what) {
        mustBe(point != null && what >= 0 && what <= 6);
        return (int) point[what];
    }

    public int least(int list, int to) {
        list(to);
        lists[to] = list(list).madeLeast();
        return lists[to].rules.size();
    }

    public boolean now(int newTime) {
        if (newTime < time || newTime > 1000000000) {
            return false;
        }
        time = newTime;
        connections.removeIf(connection -> connection.due <= newTime);
        return true;
    }

    public boolean room(int n) {
        if (n < 1 || n > 64) {
            return false;
        }
        room = n;
        connections.clear();
        return true;
    }

    public int packet(int in, int proto, int src, int dst, int sport, int dport, int flags) {
        mustBeFields(in, proto, sport, dport, flags, 63);
        Packet p = packetOf(in, proto, src, dst, sport, dport);
        p.flags = flags;
        return come(p, null);
    }

    public int datagram(int in) {
        mustBeFields(in, 0, 0, 0, 0, 0);
        byte[] d = takeTape();
        int[] wrong = wrongWith(d);
        fault = wrong[0];
        if (fault != 0) {
            return -1 - wrong[1];
        }
        Packet p = read(d, 0);
        p.fields[0] = in;
        int t = header(d, 0);
        p.flags = p.proto() == 6 ? d[t + 13] & 63 : 0;
        return come(p, toldOf(d, t));
    }

    private static int byteAt(byte[] d, int k) {
        return d[k] & 255;
    }

    private static int pair(byte[] d, int k) {
        return byteAt(d, k) * 256 + byteAt(d, k + 1);
    }

    private static int header(byte[] d, int place) {
        return byteAt(d, place) % 16 * 4;
    }

    /** Kind and place of the first fault; the kind 0 without one. */
    private static int[] wrongWith(byte[] d) {
        int n = d.length;
        if (n < 20) {
            return new int[] {1, n};
        }
        if (byteAt(d, 0) < 69 || byteAt(d, 0) > 79) {
            return new int[] {2, 0};
        }
        int t = header(d, 0);
        if (pair(d, 2) != n || pair(d, 2) < t) {
            return new int[] {3, 2};
        }
        if (Datagrams.sum(d, 0, t, 0) != 65535) {
            return new int[] {4, 10};
        }
        if (byteAt(d, 6) % 64 != 0 || d[7] != 0) {
            return new int[] {5, 6};
        }
        return wrongBehind(d, t, n - t);
    }

    private static int[] wrongBehind(byte[] d, int t, int left) {
        int proto = byteAt(d, 9);
        if (proto != 6 && proto != 17 && proto != 1) {
            return new int[] {0, 0};
        }
        boolean whole = left >= (proto == 6 ? 20 : 8);
        if (whole && proto == 6) {
            int rows = byteAt(d, t + 12) / 16;
            whole = rows >= 5 && rows * 4 <= left;
        } else if (whole && proto == 17) {
            whole = pair(d, t + 4) == left;
        }
        if (!whole) {
            return new int[] {6, t};
        }
        int seed = proto == 1 ? 0 : Datagrams.sum(d, 12, 20, 0) + proto + left;
        boolean summed = Datagrams.sum(d, t, d.length, seed) == 65535 || proto == 17 && pair(d, t + 6) == 0;
        return summed ? new int[] {0, 0} : new int[] {7, proto == 6 ? t + 16 : proto == 17 ? t + 6 : t + 2};
    }

    private static Packet read(byte[] d, int place) {
        int t = place + header(d, place);
        int proto = byteAt(d, place + 9);
        int src = pair(d, place + 12) << 16 | pair(d, place + 14);
        int dst = pair(d, place + 16) << 16 | pair(d, place + 18);
        if (proto == 6 || proto == 17) {
            return packetOf(0, proto, src, dst, pair(d, t), pair(d, t + 2));
        }
        if (proto == 1) {
            return packetOf(0, proto, src, dst, pair(d, t), d[t] == 0 || d[t] == 8 ? pair(d, t + 4) : 0);
        }
        return packetOf(0, proto, src, dst, 0, 0);
    }

    /** The packet that a datagram tells of; null, if it tells of none. */
    private static Packet toldOf(byte[] d, int t) {
        if (d[9] != 1 || !List.of(3, 4, 5, 11, 12).contains(byteAt(d, t)) || d.length - t - 8 < 28) {
            return null;
        }
        int first = byteAt(d, t + 8);
        boolean tells = first >= 69 && first <= 79 && d.length >= t + 8 + header(d, t + 8) + 8;
        return tells ? read(d, t + 8) : null;
    }

    private Connection connectionOf(Packet p) {
        for (Connection connection : connections) {
            if (p != null && connection.sideOf(p) != 0) {
                return connection;
            }
        }
        return null;
    }

    private static int stateOf(Packet p, Connection c) {
        if (c == null) {
            boolean begins = p.proto() == 6 ? (p.flags & 23) == 2 : p.proto() != 1 || p.type() == 8;
            return begins ? 0 : 3;
        }
        int side = c.sideOf(p);
        int behind = c.phaseBehind(p, side);
        if (p.proto() == 6 && (behind == 0 || c.phase >= 6 && behind == 1)) {
            return behind == 0 ? 3 : 0;
        }
        return c.answered || side == 2 ? 1 : 0;
    }

    private int come(Packet p, Packet told) {
        came++;
        latest = p;
        boolean related = connectionOf(told) != null;
        Connection c = connectionOf(p);
        int state = related ? 2 : stateOf(p, c);
        int action = tell(lists[0], p, state);
        if (action == 1 && state < 2) {
            if (c == null && !makeRoom()) {
                return 16 + 4 * state;
            }
            if (c == null) {
                c = new Connection(p);
                connections.add(c);
            } else {
                c.step(p, c.sideOf(p));
            }
            c.due = time + c.lasting();
        }
        return action + 4 * state;
    }

    private static int tell(PlainList list, Packet p, int state) {
        int k = list.matching(p.fields, state);
        if (k < 0) {
            list.policyTold++;
            return list.policy;
        }
        list.rules.get(k).told++;
        return list.rules.get(k).action;
    }

    private boolean makeRoom() {
        if (connections.size() < room) {
            return true;
        }
        Connection goes = null;
        for (Connection c : connections) {
            goes = !c.answered && (goes == null || c.due < goes.due) ? c : goes;
        }
        if (goes == null) {
            full++;
            return false;
        }
        connections.remove(goes);
        went++;
        return true;
    }

    public int pack() {
        mustBe(latest != null);
        int proto = latest.proto();
        int sport = (int) latest.fields[4];
        int dport = (int) latest.fields[5];
        byte[] body = {};
        if (proto == 6 || proto == 17) {
            body = new byte[proto == 6 ? 20 : 8];
            Datagrams.pair(body, 0, sport);
            Datagrams.pair(body, 2, dport);
            Datagrams.pair(body, proto == 6 ? 12 : 4, proto == 6 ? 5 * 4096 + latest.flags : 8);
        } else if (proto == 1) {
            body = Datagrams.icmp(sport / 256, sport % 256, latest.type() % 8 == 0 && latest.type() < 9 ? dport : 0, body);
        }
        out = Datagrams.datagram(0, proto, (int) latest.fields[2], (int) latest.fields[3], body);
        out[1] = 0;
        Datagrams.pair(out, 4, 0);
        out[8] = 64;
        Datagrams.summed(out);
        if (proto == 17 && pair(out, 26) == 0) {
            Datagrams.pair(out, 26, 65535);
        }
        return out.length;
    }

    public int connection(int i, int what) {
        mustBe(i >= 0 && i < connections.size() && what >= 0 && what <= 8);
        Connection c = connections.get(i);
        long[] fields = c.first.fields;
        long[] parts = {fields[1], fields[2], fields[3], fields[4], fields[5], c.phase, c.answered ? 1 : 0, c.firstFin, c.due};
        return (int) parts[what];
    }

    public int count(int what) {
        int[] counts = {tape.length, out.length, time, room, connections.size(), came, went, full};
        return what >= 0 && what < counts.length ? counts[what] : -1;
    }
}
