import java.util.Arrays;
import java.util.NoSuchElementException;

/**
 * Sentences of the document's first part (packets, datagrams and their faults) and of promises 18 and 19 that name
 * a boundary case: each has a method of its own, which names it first.
 */
public final class DatagramSentencesTest extends Datagrams {
    private static final Checks CHECKS = new Checks();
    private static final int LEAST = Integer.MIN_VALUE;
    private static final int MOST = Integer.MAX_VALUE;
    private static final int RELATED = 9;
    private static final int INVALID = 13;

    public static void main(String[] args) {
        edgesOfFields();
        flagsAndProtocols();
        asAWhole();
        firstOfThese();
        fewerThanTwenty();
        firstByte();
        lengthIsNot();
        lengthBelowHeader();
        headerSum();
        piece();
        tcpRows();
        udpLength();
        icmpLength();
        otherProtocols();
        bodySum();
        lastByteByItself();
        endsInTheSum();
        noSumOfUdp();
        portsAndFlags();
        icmpPorts();
        allElse();
        tellingTypes();
        twentyEightBytes();
        toldFirstByte();
        eightBehindTheHeader();
        toldFields();
        emptyThen();
        placeOfAFault();
        inIsNone();
        packTakesTheLatest();
        packHeader();
        packTcp();
        packUdp();
        packIcmp();
        packOthers();
        packCarries();
        packNone();
        CHECKS.end();
    }

    private static void terms(String words) {
        CHECKS.sentence("Terms, 1", words);
    }

    private static void terms(String words, String aspect) {
        CHECKS.sentence("Terms, 1", words, aspect);
    }

    private static GateHouse open() {
        return Checks.gateWith("policy accept;");
    }

    private static void good(String what, byte[] d) {
        GateHouse gate = open();
        CHECKS.same(what, send(gate, 2, d) >= 0, true);
        CHECKS.same("fault of " + what, gate.fault(), 0);
        CHECKS.same("came: " + what, gate.count(5), 1);
    }

    private static void bad(String what, byte[] d, int place, int kind) {
        GateHouse gate = open();
        CHECKS.same(what, send(gate, 2, d), -1 - place);
        CHECKS.same("fault of " + what, gate.fault(), kind);
        CHECKS.same("came: " + what, gate.count(5), 0);
        CHECKS.same("connections: " + what, gate.count(4), 0);
    }

    private static byte[] other(int bytes) {
        return datagram(0, 50, 1, 2, new byte[bytes]);
    }

    private static void edgesOfFields() {
        terms("PACKETS have FIELDS: IN (0 .. 3), PROTO (0 .. 255), SRC and DST (ADDRESSES, 0 to 2^32 - 1; as ints their 32 bits),"
                + " SPORT and DPORT (0 .. 65535), FLAGS (0 .. 63).");
        int[] tops = {3, 255, 0, 0, 65535, 65535, 63};
        GateHouse gate = open();
        for (int f = 0; f < 7; f++) {
            int[] edges = f == 2 || f == 3 ? new int[] {0, MOST, LEAST, -1} : new int[] {0, tops[f]};
            int[] beyond = f == 2 || f == 3 ? new int[0] : new int[] {-1, tops[f] + 1, MOST, LEAST};
            for (int value : edges) {
                CHECKS.same("field " + f + " is " + value, packet(gate, f, value), 1);
                CHECKS.same("matched", f == 6 ? GateHouse.NONE : match(gate, f, value), GateHouse.NONE);
            }
            int field = f;
            for (int value : beyond) {
                CHECKS.refused("field " + f + " is " + value, IllegalArgumentException.class, () -> packet(gate, field, value));
                if (f < 6) {
                    CHECKS.refused("matched with " + value, IllegalArgumentException.class, () -> match(gate, field, value));
                }
            }
        }
        CHECKS.same("so many came", gate.count(5), 18);
    }

    /** A packet of no known protocol that has one field as told. */
    private static int packet(GateHouse gate, int field, int value) {
        int[] p = {1, 99, 1, 2, 3, 4, 5};
        p[field] = value;
        gate.room(1);
        return gate.packet(p[0], p[1], p[2], p[3], p[4], p[5], p[6]);
    }

    private static int match(GateHouse gate, int field, int value) {
        int[] p = {1, 99, 1, 2, 3, 4};
        p[field] = value;
        return gate.match(0, p[0], p[1], p[2], p[3], p[4], p[5], 0);
    }

    private static void flagsAndProtocols() {
        terms("SYN is 2, FIN 1, RST 4, ACK 16 of FLAGS; of PROTO 6 is TCP, 17 UDP, 1 ICMP.");
        for (int bit = 1; bit < 64; bit *= 2) {
            CHECKS.same("flag " + bit + " begins a TCP", open().packet(0, 6, 1, 2, 3, 4, bit), bit == 2 ? 1 : INVALID);
        }
        for (int proto = 0; proto < 256; proto++) {
            GateHouse gate = open();
            boolean lone = proto == 6 || proto == 1;
            CHECKS.same("without flags, proto " + proto, gate.packet(0, proto, 1, 2, 3, 4, 0), lone ? INVALID : 1);
            gate.room(1);
            gate.packet(0, proto, 1, 2, 8 * 256, 4, 2);
            int due = proto == 6 ? 120 : proto == 17 || proto == 1 ? 30 : 600;
            CHECKS.same("due of proto " + proto, gate.connection(0, 8), due);
        }
    }

    private static void asAWhole() {
        terms("DATAGRAMS are bytes as published .. : the tape as a whole is one.");
        good("the shortest", other(0));
        good("the longest tape", datagram(0, 17, 1, 2, udp(3, 4, 2100 - 28)));
        good("the longest header", datagram(10, 6, 1, 2, tcp(3, 4, 2, 10, 0)));
        byte[] two = Arrays.copyOf(other(0), 40);
        System.arraycopy(other(0), 0, two, 20, 20);
        bad("two of them", two, 2, 3);
    }

    private static void firstOfThese() {
        terms("FAULTS, the first of these");
        bad("1 ahead of 2", new byte[19], 19, 1);
        bad("2 ahead of 3", new byte[20], 0, 2);
        bad("3 ahead of 4", with(other(5), 3, 24), 2, 3);
        bad("4 ahead of 5", with(other(5), 7, 1), 10, 4);
        bad("5 ahead of 6", headerSummed(with(datagram(0, 6, 1, 2, new byte[5]), 7, 1)), 6, 5);
        byte[] tcp = with(datagram(0, 6, 1, 2, tcp(3, 4, 2, 0, 0)), 32, 64);
        bad("6 ahead of 7", tcp, 20, 6);
        bad("7 alone", with(tcp, 32, 80), 36, 7);
    }

    private static void fewerThanTwenty() {
        terms("1 it has fewer than 20 bytes (place: how many)");
        byte[] d = other(0);
        for (int n = 0; n < 20; n++) {
            bad(n + " bytes", Arrays.copyOf(d, n), n, 1);
        }
        good("20 bytes", d);
    }

    private static void firstByte() {
        terms("2 the first byte is not 69 .. 79 (4, and 5 to 15 rows of four bytes) (0)");
        byte[] d = datagram(10, 50, 1, 2, new byte[0]);
        for (int first = 0; first < 256; first++) {
            if (first < 69 || first > 79) {
                bad("first byte " + first, with(d, 0, first), 0, 2);
            } else {
                good("first byte " + first, headerSummed(with(d, 0, first)));
            }
        }
    }

    private static void lengthIsNot() {
        terms("3 its length (bytes 2, 3) is not how many bytes there are .. (2)");
        byte[] d = datagram(0, 50, 1, 2, new byte[280]);
        good("300 bytes", d);
        bad("one byte more", Arrays.copyOf(d, 301), 2, 3);
        bad("one byte less", Arrays.copyOf(d, 299), 2, 3);
        for (int length : new int[] {0, 44, 299, 301, 300 + 256, 300 + 32768, 65535}) {
            byte[] wrong = d.clone();
            pair(wrong, 2, length);
            bad("length " + length, headerSummed(wrong), 2, 3);
        }
    }

    private static void lengthBelowHeader() {
        terms("3 its length .. or less than its header's (2)");
        for (int rows = 5; rows <= 15; rows++) {
            byte[] d = new byte[4 * rows];
            d[0] = (byte) (64 + rows);
            pair(d, 2, d.length);
            d[9] = 50;
            good("a header of " + rows, headerSummed(d));
            if (rows > 5) {
                byte[] cut = Arrays.copyOf(headerSummed(d), 4 * rows - 1);
                pair(cut, 2, cut.length);
                bad("one byte less than " + rows, cut, 2, 3);
            }
        }
    }

    private static void headerSum() {
        terms("4 the sum of the header's rows of two bytes, with carries brought in again, is not 65535 (10)");
        byte[] d = datagram(2, 50, 0xfffefdfc, 0xfffffffb, new byte[3]);
        good("many carries", d);
        good("hardly any", datagram(0, 50, 0, 0, new byte[0]));
        for (int k : new int[] {1, 4, 5, 8, 10, 11, 12, 13, 14, 15, 16, 17, 18, 19, 20, 27}) {
            bad("one more at " + k, with(d, k, d[k] + 1), 10, 4);
            bad("one less at " + k, with(d, k, d[k] - 1), 10, 4);
        }
        // What stands behind the header is not in its sum.
        good("another byte behind it", with(d, 28, 99));
        // Two rows that change places leave the sum as it is.
        byte[] changed = d.clone();
        System.arraycopy(d, 12, changed, 16, 4);
        System.arraycopy(d, 16, changed, 12, 4);
        good("ends changed", changed);
    }

    private static void piece() {
        terms("5 it is a piece of one: byte 6 less its highest two bits, or byte 7, is not 0,"
                + " or the third highest bit of byte 6 is 1 (6)");
        byte[] d = other(8);
        for (int bits = 0; bits < 256; bits++) {
            if (bits == 0 || bits == 64 || bits == 128 || bits == 192) {
                good("byte 6 is " + bits, headerSummed(with(d, 6, bits)));
            } else {
                bad("byte 6 is " + bits, headerSummed(with(d, 6, bits)), 6, 5);
            }
            if (bits != 0) {
                bad("byte 7 is " + bits, headerSummed(with(d, 7, bits)), 6, 5);
            }
        }
    }

    private static void tcpRows() {
        terms("6 of TCP: less than 20 bytes from T on, or byte T + 12 / 16 is not 5 to 15 or goes beyond the end .. (T)");
        for (int options = 0; options <= 10; options += 5) {
            int t = 20 + 4 * options;
            for (int n : new int[] {0, 12, 13, 19}) {
                bad(n + " bytes", datagram(options, 6, 1, 2, Arrays.copyOf(tcp(3, 4, 2, 0, 0), n)), t, 6);
            }
            good("20 bytes", datagram(options, 6, 1, 2, tcp(3, 4, 2, 0, 0)));
            byte[] d = datagram(options, 6, 1, 2, tcp(3, 4, 2, 0, 40));
            for (int rows = 0; rows < 16; rows++) {
                byte[] other = summed(with(d, t + 12, rows * 16 + 15));
                if (rows < 5) {
                    bad(rows + " rows", other, t, 6);
                } else {
                    good(rows + " rows", other);
                }
                if (rows > 5) {
                    byte[] cut = datagram(options, 6, 1, 2, with(tcp(3, 4, 2, 0, 4 * rows - 21), 12, rows * 16));
                    bad(rows + " rows, one byte less", cut, t, 6);
                    good(rows + " rows, none less", datagram(options, 6, 1, 2, with(tcp(3, 4, 2, 0, 4 * rows - 20), 12, rows * 16)));
                }
            }
        }
    }

    private static void udpLength() {
        terms("6 .. of UDP: less than 8 bytes, or its length (T + 4, T + 5) is not what there is from T on .. (T)");
        for (int options = 0; options <= 10; options += 5) {
            int t = 20 + 4 * options;
            for (int n : new int[] {0, 5, 6, 7}) {
                byte[] body = Arrays.copyOf(udp(3, 4, 0), n);
                if (n > 5) {
                    body[5] = (byte) n;
                }
                bad(n + " bytes", datagram(options, 17, 1, 2, body), t, 6);
            }
            good("8 bytes", datagram(options, 17, 1, 2, udp(3, 4, 0)));
            for (int length : new int[] {0, 7, 8, 307, 309, 308 + 256, 52, 65535}) {
                byte[] d = datagram(options, 17, 1, 2, udp(3, 4, 300));
                pair(d, t + 4, length);
                bad("length " + length, summed(d), t, 6);
            }
            good("308 bytes", datagram(options, 17, 1, 2, udp(3, 4, 300)));
        }
    }

    private static void icmpLength() {
        terms("6 .. of ICMP: less than 8 bytes (T)");
        for (int options = 0; options <= 10; options += 5) {
            for (int n : new int[] {0, 1, 4, 7}) {
                bad(n + " bytes", datagram(options, 1, 1, 2, Arrays.copyOf(icmp(8, 0, 9, new byte[0]), n)), 20 + 4 * options, 6);
            }
            good("8 bytes", datagram(options, 1, 1, 2, icmp(8, 0, 9, new byte[0])));
        }
    }

    private static void otherProtocols() {
        terms("6 of TCP .. of UDP .. of ICMP", "others have no such FAULTS");
        for (int proto : new int[] {0, 2, 5, 7, 16, 18, 255}) {
            byte[] junk = new byte[21];
            Arrays.fill(junk, (byte) 85);
            for (int n : new int[] {0, 1, 7, 8, 20, 21}) {
                good("proto " + proto + " of " + n, datagram(0, proto, 1, 2, Arrays.copyOf(junk, n)));
            }
        }
    }

    private static void bodySum() {
        terms("7 the sum of all rows of two bytes from T on .. is not 65535 (TCP T + 16, UDP T + 6, .. ICMP T + 2)");
        for (int options = 0; options <= 10; options += 5) {
            int t = 20 + 4 * options;
            byte[] tcp = datagram(options, 6, -1, -2, tcp(65535, 65534, 2, 1, 6));
            byte[] udp = datagram(options, 17, -1, -2, udp(65535, 65534, 6));
            byte[] icmp = datagram(options, 1, -1, -2, icmp(8, 255, 65535, new byte[6]));
            good("tcp", tcp);
            good("udp", udp);
            good("icmp", icmp);
            for (int k = 0; k < 8; k++) {
                bad("tcp at " + k, with(tcp, t + k, tcp[t + k] + 1), t + 16, 7);
                bad("icmp at " + k, with(icmp, t + k, icmp[t + k] + 1), t + 2, 7);
                if (k != 4 && k != 5) {
                    bad("udp at " + k, with(udp, t + k, udp[t + k] + 1), t + 6, 7);
                }
            }
            bad("tcp, window", with(tcp, t + 14, 1), t + 16, 7);
            bad("tcp, the sum itself", with(tcp, t + 17, tcp[t + 17] - 1), t + 16, 7);
            bad("tcp, behind its header", with(tcp, t + 24, 1), t + 16, 7);
            bad("udp, behind its header", with(udp, t + 8, 1), t + 6, 7);
            bad("icmp, behind its header", with(icmp, t + 8, 1), t + 2, 7);
        }
    }

    private static void lastByteByItself() {
        terms("(a last one by itself is a row with 0)");
        for (int data = 0; data < 4; data++) {
            byte[] tcp = datagram(0, 6, 1, 2, tcp(3, 4, 2, 0, data));
            byte[] udp = datagram(0, 17, 1, 2, udp(3, 4, data));
            byte[] icmp = datagram(0, 1, 1, 2, icmp(8, 0, 9, new byte[data]));
            good("tcp and " + data, tcp);
            good("udp and " + data, udp);
            good("icmp and " + data, icmp);
            bad("tcp, the last of " + data, with(tcp, 39 + data, tcp[39 + data] + 1), 36, 7);
            bad("icmp, the last of " + data, with(icmp, 27 + data, icmp[27 + data] + 1), 22, 7);
            bad("udp, the last of " + data, with(udp, 27 + data, udp[27 + data] + 1), 26, 7);
        }
        // The last byte is the higher one of its row, and the length counts it alone.
        byte[] d = with(datagram(0, 1, 1, 2, icmp(8, 0, 0, new byte[1])), 28, 1);
        pair(d, 22, 65535 - 0x0800 - 0x0100);
        good("higher", d);
        pair(d, 22, 65535 - 0x0800 - 0x0001);
        bad("not lower", d, 22, 7);
    }

    private static void endsInTheSum() {
        terms("of TCP and UDP also those of SRC, DST, of PROTO, and of how many bytes there are from T on, likewise");
        byte[] tcp = datagram(0, 6, 1, 2, tcp(3, 4, 2, 0, 0));
        byte[] udp = datagram(0, 17, 1, 2, udp(3, 4, 0));
        byte[] icmp = datagram(0, 1, 1, 2, icmp(8, 0, 9, new byte[0]));
        for (int k = 12; k < 20; k++) {
            bad("tcp of another end " + k, headerSummed(with(tcp, k, 77)), 36, 7);
            bad("udp of another end " + k, headerSummed(with(udp, k, 77)), 26, 7);
            good("icmp of another end " + k, headerSummed(with(icmp, k, 77)));
        }
        // Two bytes 0 more change no row, but the length is summed.
        byte[] longer = Arrays.copyOf(tcp, 42);
        pair(longer, 2, 42);
        bad("tcp of another length", headerSummed(longer), 36, 7);
        byte[] echo = Arrays.copyOf(icmp, 30);
        pair(echo, 2, 30);
        good("icmp of another length", headerSummed(echo));
        // Sums in which the ends alone carry.
        good("tcp, high ends", datagram(0, 6, -1, -1, tcp(0, 0, 2, 0, 0)));
        good("udp, high ends", datagram(0, 17, -1, -1, udp(0, 0, 0)));
    }

    private static void noSumOfUdp() {
        terms("UDP T + 6, where two bytes 0 are no sum and right");
        byte[] d = datagram(0, 17, 1, 2, udp(3, 4, 5));
        byte[] none = with(with(d, 26, 0), 27, 0);
        good("no sum", none);
        good("no sum, other bytes", with(none, 30, 77));
        bad("one byte 0", with(d, 26, 0), 26, 7);
        bad("the other byte 0", with(d, 27, 0), 26, 7);
        bad("0 1", with(none, 27, 1), 26, 7);
        bad("1 0", with(none, 26, 1), 26, 7);
        byte[] tcp = datagram(0, 6, 1, 2, tcp(3, 4, 2, 0, 0));
        bad("tcp has one", with(with(tcp, 36, 0), 37, 0), 36, 7);
        byte[] icmp = datagram(0, 1, 1, 2, icmp(8, 0, 9, new byte[0]));
        bad("icmp has one", with(with(icmp, 22, 0), 23, 0), 22, 7);
        // Where the rows make 65535 without it, 65535 is right, and 0 is no sum.
        byte[] even = datagram(0, 17, 0, 0, udp(65535 - 17 - 16, 0, 0));
        pair(even, 26, 65535);
        good("65535", even);
        pair(even, 26, 0);
        good("0", even);
    }

    private static void portsAndFlags() {
        terms("Of TCP and UDP SPORT and DPORT are the rows of two bytes at T, T + 2, FLAGS of TCP the lowest six bits of byte T + 13");
        for (int options = 0; options <= 10; options += 5) {
            GateHouse gate = open();
            send(gate, 0, datagram(options, 6, -1, LEAST, tcp(65535, 256, 2, 0, 0)));
            send(gate, 0, datagram(options, 17, MOST, -2, udp(255, 65280, 0)));
            CHECKS.same("tcp", Checks.connection(gate, 0, 0), "6 4294967295 2147483648 65535 256 1 0 0 120");
            CHECKS.same("udp", Checks.connection(gate, 1, 0), "17 2147483647 4294967294 255 65280 0 0 0 30");
        }
        for (int octet = 0; octet < 256; octet++) {
            GateHouse gate = open();
            send(gate, 0, datagram(0, 6, 1, 2, with(tcp(3, 4, 0, 0, 0), 13, octet)));
            gate.pack();
            CHECKS.same("flags of " + octet, gate.octet(33), octet & 63);
            CHECKS.same("begun by " + octet, gate.count(4), (octet & 23) == 2 ? 1 : 0);
        }
    }

    private static void icmpPorts() {
        terms("of ICMP SPORT are byte T times 256 and byte T + 1, DPORT of types 0 and 8 (byte T) the row at T + 4");
        for (int type = 0; type < 256; type++) {
            GateHouse gate = Checks.gateWith("accept proto icmp sport " + (type * 256 + 255) + " dport 65281; reject dport 0;");
            boolean echo = type == 0 || type == 8;
            int due = (echo ? 1 : 2) + (type == 8 ? 0 : 12);
            CHECKS.same("type " + type, send(gate, 0, datagram(3, 1, 1, 2, icmp(type, 255, 65281, new byte[0]))), due);
        }
    }

    private static void allElse() {
        terms("All else is 0.");
        GateHouse gate = Checks.gateWith("accept sport 0 dport 0; reject;");
        byte[] body = new byte[24];
        Arrays.fill(body, (byte) 255);
        for (int proto : new int[] {0, 2, 5, 7, 16, 18, 50, 255}) {
            CHECKS.same("proto " + proto, send(gate, 0, datagram(0, proto, 1, 2, body)), 1);
        }
        // What a packet ahead of it had is not left in it.
        gate.packet(0, 6, 1, 2, 3, 4, 63);
        CHECKS.same("behind another", send(gate, 0, datagram(0, 50, 1, 2, body)), 1);
        gate.packet(0, 6, 1, 2, 3, 4, 63);
        send(gate, 0, datagram(0, 17, 1, 2, udp(0, 0, 0)));
        CHECKS.same("packed", gate.pack(), 28);
    }

    private static byte[] report(int type, byte[] told) {
        return datagram(type % 2, 1, 77, 88, icmp(type, 200, 999, told));
    }

    private static void tellingTypes() {
        terms("An ICMP of type 3, 4, 5, 11, 12 TELLS OF a packet");
        byte[] told = datagram(0, 17, 1, 2, udp(3, 4, 0));
        for (int type = 0; type < 256; type++) {
            GateHouse gate = open();
            gate.packet(0, 17, 1, 2, 3, 4, 0);
            boolean tells = type == 3 || type == 4 || type == 5 || type == 11 || type == 12;
            CHECKS.same("type " + type, send(gate, 0, report(type, told)), tells ? RELATED : type == 8 ? 1 : INVALID);
        }
        // Others than ICMP tell of none.
        GateHouse gate = open();
        gate.packet(0, 17, 1, 2, 3, 4, 0);
        byte[] body = icmp(3, 200, 999, told);
        CHECKS.same("not of ICMP", send(gate, 0, datagram(0, 2, 77, 88, body)), 1);
    }

    private static void twentyEightBytes() {
        terms("if from T + 8 on there are 28 bytes or more");
        GateHouse gate = open();
        gate.packet(0, 17, 1, 2, 3, 4, 0);
        byte[] told = datagram(0, 17, 1, 2, udp(3, 4, 5));
        for (int n : new int[] {0, 1, 19, 20, 27, 28, 29, 33}) {
            CHECKS.same(n + " bytes", send(gate, 0, report(3, Arrays.copyOf(told, n))), n < 28 ? INVALID : RELATED);
            CHECKS.same(n + " bytes", send(gate, 0, report(12, Arrays.copyOf(told, n))), n < 28 ? INVALID : RELATED);
        }
    }

    private static void toldFirstByte() {
        terms("the first of them 69 .. 79");
        for (int first = 0; first < 256; first++) {
            GateHouse gate = open();
            byte[] told = Arrays.copyOf(datagram(0, 50, 1, 2, new byte[0]), 68);
            told[0] = (byte) first;
            gate.packet(0, 50, 1, 2, 0, 0, 0);
            boolean fine = first >= 69 && first <= 79;
            CHECKS.same("first " + first, send(gate, 0, report(3, told)), fine ? RELATED : INVALID);
        }
    }

    private static void eightBehindTheHeader() {
        terms("and 8 bytes behind the header that this tells");
        GateHouse gate = open();
        gate.packet(0, 17, 1, 2, 3, 4, 0);
        for (int options = 0; options <= 10; options++) {
            byte[] told = datagram(options, 17, 1, 2, udp(3, 4, 1));
            CHECKS.same("7 behind " + options, send(gate, 0, report(4, beginning(told, 7))), INVALID);
            CHECKS.same("8 behind " + options, send(gate, 0, report(4, beginning(told, 8))), RELATED);
            CHECKS.same("9 behind " + options, send(gate, 0, report(4, beginning(told, 9))), RELATED);
        }
    }

    private static void toldFields() {
        terms("its PROTO, SRC, DST, of TCP and UDP SPORT and DPORT (else 0; of ICMP as above)");
        byte[] full = new byte[8];
        Arrays.fill(full, (byte) 255);
        GateHouse gate = open();
        gate.packet(0, 6, -1, LEAST, 65535, 256, 2);
        gate.packet(0, 50, 1, 2, 0, 0, 0);
        gate.packet(0, 51, 1, 2, 65535, 65535, 0);
        gate.packet(0, 1, 1, 2, 8 * 256, 65281, 0);
        for (int options = 0; options <= 10; options += 5) {
            byte[] tcp = beginning(datagram(options, 6, -1, LEAST, tcp(65535, 256, 2, 0, 0)), 8);
            int t = 20 + 4 * options;
            CHECKS.same("tcp", send(gate, 0, report(5, tcp)), RELATED);
            for (int k : new int[] {9, 12, 15, 16, 19, t, t + 1, t + 2, t + 3}) {
                CHECKS.same("tcp, another byte " + k, send(gate, 0, report(5, with(tcp, k, 17))), INVALID);
            }
            CHECKS.same("tcp, what is not told", send(gate, 0, report(5, with(tcp, t + 4, 17))), RELATED);
            CHECKS.same("others have ports 0", send(gate, 0, report(5, datagram(options, 50, 1, 2, full))), RELATED);
            CHECKS.same("and no others", send(gate, 0, report(5, datagram(options, 51, 1, 2, full))), INVALID);
            byte[] asks = datagram(options, 1, 1, 2, icmp(8, 7, 65281, new byte[0]));
            byte[] tells = datagram(options, 1, 2, 1, icmp(0, 7, 65281, new byte[0]));
            CHECKS.same("icmp, origin", send(gate, 0, report(5, asks)), RELATED);
            CHECKS.same("icmp, answer", send(gate, 0, report(5, tells)), RELATED);
            CHECKS.same("icmp, another", send(gate, 0, report(5, with(asks, t + 5, 0))), INVALID);
            CHECKS.same("icmp, another type", send(gate, 0, report(5, with(asks, t, 13))), INVALID);
        }
    }

    private static void emptyThen() {
        CHECKS.sentence("Promise 18", "The tape (empty then) is a DATAGRAM that comes by IN: as packet()");
        for (int in = 0; in < 4; in++) {
            GateHouse gate = Checks.gateWith("policy reject; accept in " + in + ";");
            for (int by = 0; by < 4; by++) {
                CHECKS.same("in " + by, send(gate, by, datagram(0, 50, 1, 2 + by, new byte[0])), by == in ? 1 : 2);
                CHECKS.same("tape", gate.count(0), 0);
            }
            CHECKS.same("came", gate.count(5), 4);
            CHECKS.same("begun", gate.count(4), 1);
            CHECKS.same("an empty tape is none", gate.datagram(0), -1);
        }
    }

    private static void placeOfAFault() {
        CHECKS.sentence("Promise 18", "-1 - the place of a FAULT.");
        GateHouse gate = open();
        byte[] tcp = datagram(1, 6, 1, 2, tcp(3, 4, 2, 0, 0));
        byte[][] wrong = {Arrays.copyOf(tcp, 7), with(tcp, 0, 68), Arrays.copyOf(tcp, 43), with(tcp, 11, tcp[11] + 1),
            headerSummed(with(tcp, 7, 1)), summed(with(tcp, 36, 64)), with(tcp, 43, 1)};
        int[] due = {-8, -1, -3, -11, -7, -25, -41};
        for (int k = 0; k < 7; k++) {
            CHECKS.same("fault " + (k + 1), send(gate, 0, wrong[k]), due[k]);
            CHECKS.same("its kind", gate.fault(), k + 1);
            CHECKS.same("tape", gate.count(0), 0);
        }
        CHECKS.same("none came", gate.count(5), 0);
        CHECKS.same("none was told", gate.rule(0, GateHouse.NONE, 14), 0);
        CHECKS.same("none has begun", gate.count(4), 0);
    }

    private static void inIsNone() {
        CHECKS.sentence("Promise 18", "IllegalArgumentException: IN is none.");
        GateHouse gate = open();
        Checks.feed(gate, other(3));
        for (int in : new int[] {-1, 4, MOST, LEAST}) {
            CHECKS.refused("in " + in, IllegalArgumentException.class, () -> gate.datagram(in));
            CHECKS.same("tape", gate.count(0), 23);
        }
        CHECKS.same("in 3", gate.datagram(3), 1);
        // Of a tape that is no datagram likewise.
        CHECKS.refused("of an empty tape", IllegalArgumentException.class, () -> gate.datagram(4));
    }

    private static String packed(GateHouse gate) {
        int length = gate.pack();
        StringBuilder all = new StringBuilder();
        for (int k = 0; k < length; k++) {
            all.append(String.format("%02x", gate.octet(k)));
        }
        CHECKS.same("OUT", gate.count(1), length);
        return all.toString();
    }

    private static void packTakesTheLatest() {
        CHECKS.sentence("Promise 19", "The packet that came latest as the shortest DATAGRAM to OUT: how many bytes.");
        GateHouse gate = Checks.gateWith("policy accept; drop in 1; reject in 2;");
        gate.room(1);
        for (int in = 0; in < 3; in++) {
            gate.packet(in, 200 + in, 1, 2, 3, 4, 0);
            CHECKS.same("whatever its action", packed(gate).substring(18, 20), String.format("%02x", 200 + in));
        }
        gate.packet(0, 6, 1, 2, 3, 4, 0);
        CHECKS.same("an invalid one", packed(gate).substring(18, 20), "06");
        gate.packet(0, 17, 1, 2, 3, 4, 0);
        gate.packet(0, 17, 2, 1, 4, 3, 0);
        gate.packet(0, 99, 1, 2, 3, 4, 0);
        CHECKS.same("one that was full", gate.count(7), 1);
        CHECKS.same("one that was full", packed(gate).substring(18, 20), "63");
        String before = packed(gate);
        gate.match(0, 1, 7, 8, 9, 0, 0, 0);
        send(gate, 0, with(other(1), 7, 1));
        CHECKS.refused("one that is none", IllegalArgumentException.class, () -> gate.packet(0, 300, 0, 0, 0, 0, 0));
        CHECKS.same("these do not count", packed(gate), before);
        // A datagram is packed without its options, its data and all else that it told.
        send(gate, 3, datagram(10, 17, 1, 2, udp(3, 4, 50)));
        String one = packed(gate);
        gate.packet(0, 17, 1, 2, 3, 4, 0);
        CHECKS.same("the shortest", packed(gate), one);
        // A report packs as itself, not as what it tells of.
        send(gate, 0, report(3, datagram(0, 17, 1, 2, udp(3, 4, 0))));
        CHECKS.same("a report", packed(gate), "4500001c0000000040017a3d" + "0000004d00000058" + "03c8fc3700000000");
    }

    private static void packHeader() {
        CHECKS.sentence("Promise 19", "Header of 20 bytes: 69, 0, the length, 0 0, 0 0, 64, PROTO, the sum, SRC, DST");
        GateHouse gate = open();
        gate.packet(3, 255, -1, LEAST, 65535, 65535, 63);
        // 4500 + 0014 + 40ff + ffff + ffff + 8000 + 0000 makes 30611: 0614 with carries.
        CHECKS.same("the highest", packed(gate), "4500001400000000" + "40ff" + "f9eb" + "ffffffff80000000");
        gate.packet(0, 0, 0, 0, 0, 0, 0);
        CHECKS.same("the least", packed(gate), "4500001400000000" + "4000" + "7aeb" + "0000000000000000");
    }

    private static void packTcp() {
        CHECKS.sentence("Promise 19", "of TCP, .. all that they tell .. else 0, the sum");
        for (int flags = 0; flags < 64; flags++) {
            GateHouse gate = open();
            gate.packet(0, 6, 0, 0, 0x1234, 0xabcd, flags);
            int sum = 65535 - (0x1234 + 0xabcd + 0x5000 + flags + 6 + 20 - 65535);
            CHECKS.same("flags " + flags, packed(gate), "4500002800000000" + "40067ad1" + "0000000000000000"
                    + "1234abcd" + "0000000000000000" + "50" + String.format("%02x", flags) + "0000"
                    + String.format("%04x", sum) + "0000");
        }
        // The sum of TCP may be 0.
        GateHouse gate = open();
        gate.packet(0, 6, 0, 0, 65535 - 6 - 20 - 0x5002, 0, 2);
        CHECKS.same("sum 0", packed(gate).substring(72, 76), "0000");
    }

    private static void packUdp() {
        CHECKS.sentence("Promise 19", "of .. UDP, .. all that they tell .. the sum (of UDP 65535, where it is 0)");
        GateHouse gate = open();
        gate.packet(0, 17, 0, 0, 0x0102, 0x0304, 63);
        CHECKS.same("udp", packed(gate), "4500001c00000000" + "40117ad2" + "0000000000000000" + "01020304" + "0008"
                + String.format("%04x", 65535 - 0x0102 - 0x0304 - 17 - 16));
        int[] sports = {65535 - 33 - 1, 65535 - 33, 65535 - 33 + 1};
        String[] due = {"0001", "ffff", "fffe"};
        for (int k = 0; k < 3; k++) {
            gate.packet(0, 17, 0, 0, sports[k], 0, 0);
            CHECKS.same("sum of " + sports[k], packed(gate).substring(52, 56), due[k]);
            Checks.feed(gate, Checks.out(gate));
            CHECKS.same("comes again", gate.datagram(0) >= 0, true);
        }
    }

    private static void packIcmp() {
        CHECKS.sentence("Promise 19", "of .. ICMP all that they tell (DPORT of ICMP of types 0 and 8 alone), else 0, the sum");
        for (int type = 0; type < 256; type++) {
            GateHouse gate = open();
            gate.packet(0, 1, 0, 0, type * 256 + 7, 0x0102, 63);
            boolean echo = type == 0 || type == 8;
            int sum = 65535 - type * 256 - 7 - (echo ? 0x0102 : 0);
            CHECKS.same("type " + type, packed(gate), "4500001c00000000" + "40017ae2" + "0000000000000000"
                    + String.format("%04x", type * 256 + 7) + String.format("%04x", sum) + (echo ? "0102" : "0000") + "0000");
        }
        GateHouse gate = open();
        gate.packet(0, 1, 0, 0, 0, 0, 0);
        CHECKS.same("all 0", packed(gate).substring(40), "0000ffff00000000");
        gate.packet(0, 1, 0, 0, 8 * 256, 65535 - 8 * 256, 0);
        CHECKS.same("sum 0", packed(gate).substring(40), "08000000f7ff0000");
    }

    private static void packOthers() {
        CHECKS.sentence("Promise 19", "of TCP, UDP, ICMP all that they tell", "of others the header alone");
        for (int proto = 0; proto < 256; proto++) {
            GateHouse gate = open();
            gate.packet(0, proto, 1, 2, 3, 4, 5);
            int due = proto == 6 ? 40 : proto == 17 || proto == 1 ? 28 : 20;
            CHECKS.same("length of " + proto, gate.pack(), due);
            CHECKS.same("told of " + proto, gate.octet(3), due);
            Checks.feed(gate, Checks.out(gate));
            CHECKS.same("comes again: " + proto, gate.datagram(0) >= 0, true);
        }
    }

    private static void packCarries() {
        CHECKS.sentence("Promise 19", "the sum, SRC, DST", "carries of carries");
        // Rows of the header: 4500, 0014, 4032, then what brings the carry of a carry.
        int base = 0x4500 + 0x0014 + 0x4032;
        for (int over = -3; over <= 3; over++) {
            GateHouse gate = open();
            int low = 0x10000 - base - 1 + over;
            gate.packet(0, 50, 0xffff0000 | low, 0, 0, 0, 0);
            int all = base + 0xffff + low;
            int sum = all % 65535 == 0 ? 65535 : all % 65535;
            CHECKS.same("header, " + over, packed(gate).substring(20, 24), String.format("%04x", 65535 - sum));
            Checks.feed(gate, Checks.out(gate));
            CHECKS.same("comes again", gate.datagram(0) >= 0, true);
            // Of UDP: SRC and DST, 17, 8 and 8, and the ports.
            int sport = 0x10000 - 33 - 4 + over;
            gate.packet(0, 17, -1, -1, sport, 0xffff, 0);
            all = 5 * 65535 + 33 + sport;
            sum = all % 65535 == 0 ? 65535 : all % 65535;
            CHECKS.same("udp, " + over, packed(gate).substring(52, 56), String.format("%04x", sum == 65535 ? 65535 : 65535 - sum));
            Checks.feed(gate, Checks.out(gate));
            CHECKS.same("comes again", gate.datagram(0) >= 0, true);
        }
    }

    private static void packNone() {
        CHECKS.sentence("Promise 19", "NoSuchElementException: none came.");
        GateHouse gate = open();
        CHECKS.refused("none came", NoSuchElementException.class, () -> gate.pack());
        send(gate, 0, new byte[20]);
        CHECKS.refused("a fault is none", NoSuchElementException.class, () -> gate.pack());
        CHECKS.refused("a throw is none", IllegalArgumentException.class, () -> gate.packet(4, 0, 0, 0, 0, 0, 0));
        CHECKS.refused("a throw is none", NoSuchElementException.class, () -> gate.pack());
        gate.match(0, 0, 0, 0, 0, 0, 0, 0);
        CHECKS.refused("a match is none", NoSuchElementException.class, () -> gate.pack());
        gate.packet(0, 50, 0, 0, 0, 0, 0);
        CHECKS.same("one came", gate.pack(), 20);
    }
}
