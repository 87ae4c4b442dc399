import java.util.Arrays;

/** Datagrams as bytes, built by the published words and not by the class that is tested; tests extend it. */
class Datagrams {
    /** A datagram with right sums: the header's options in rows of four bytes, and a body. */
    static byte[] datagram(int options, int proto, int src, int dst, byte[] body) {
        int head = 20 + 4 * options;
        byte[] d = new byte[head + body.length];
        d[0] = (byte) (64 + head / 4);
        d[1] = 3;
        pair(d, 2, d.length);
        pair(d, 4, 4711);
        d[8] = 17;
        d[9] = (byte) proto;
        quad(d, 12, src);
        quad(d, 16, dst);
        for (int k = 20; k < head; k++) {
            d[k] = 1;
        }
        System.arraycopy(body, 0, d, head, body.length);
        return summed(d);
    }

    static byte[] summed(byte[] d) {
        int head = (d[0] & 15) * 4;
        pair(d, 10, 0);
        pair(d, 10, 65535 - sum(d, 0, head, 0));
        int proto = d[9] & 255;
        int place = proto == 6 ? head + 16 : proto == 17 ? head + 6 : proto == 1 ? head + 2 : 0;
        if (place > 0 && place + 2 <= d.length) {
            int seed = proto == 1 ? 0 : sum(d, 12, 20, 0) + proto + d.length - head;
            pair(d, place, 0);
            pair(d, place, 65535 - sum(d, head, d.length, seed));
        }
        return d;
    }

    /** The same with the header's sum alone mended. */
    static byte[] headerSummed(byte[] d) {
        byte[] other = d.clone();
        pair(other, 10, 0);
        pair(other, 10, 65535 - sum(other, 0, (d[0] & 15) * 4, 0));
        return other;
    }

    static int sum(byte[] d, int from, int to, int seed) {
        int all = seed;
        for (int k = from; k < to; k++) {
            all += (d[k] & 255) << ((k - from) % 2 == 0 ? 8 : 0);
        }
        while (all > 65535) {
            all = (all & 65535) + (all >> 16);
        }
        return all;
    }

    static void pair(byte[] d, int k, int value) {
        d[k] = (byte) (value >> 8);
        d[k + 1] = (byte) value;
    }

    static void quad(byte[] d, int k, int value) {
        pair(d, k, value >> 16);
        pair(d, k + 2, value);
    }

    static byte[] tcp(int sport, int dport, int flags, int options, int data) {
        byte[] b = new byte[20 + 4 * options + data];
        pair(b, 0, sport);
        pair(b, 2, dport);
        quad(b, 4, 0x12345678);
        b[12] = (byte) ((5 + options) * 16 + 5);
        b[13] = (byte) (flags | 192);
        Arrays.fill(b, 20, b.length, (byte) 201);
        return b;
    }

    static byte[] udp(int sport, int dport, int data) {
        byte[] b = new byte[8 + data];
        pair(b, 0, sport);
        pair(b, 2, dport);
        pair(b, 4, b.length);
        Arrays.fill(b, 8, b.length, (byte) 202);
        return b;
    }

    static byte[] icmp(int type, int code, int id, byte[] data) {
        byte[] b = new byte[8 + data.length];
        b[0] = (byte) type;
        b[1] = (byte) code;
        pair(b, 4, id);
        System.arraycopy(data, 0, b, 8, data.length);
        return b;
    }

    static byte[] with(byte[] d, int k, int value) {
        byte[] other = d.clone();
        other[k] = (byte) value;
        return other;
    }

    /** The beginning of a datagram as reports tell it: a header and so many bytes behind it. */
    static byte[] beginning(byte[] d, int behind) {
        return Arrays.copyOf(d, (d[0] & 15) * 4 + behind);
    }

    static int send(GateHouse gate, int in, byte[] d) {
        Checks.feed(gate, d);
        return gate.datagram(in);
    }
}
