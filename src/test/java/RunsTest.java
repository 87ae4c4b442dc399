import java.lang.reflect.InvocationTargetException;
import java.lang.reflect.Method;
import java.lang.reflect.Modifier;
import java.util.Arrays;
import java.util.HashMap;
import java.util.Map;
import java.util.Random;

/** All promises together: runs of up to 512 calls, drawn by fixed seeds, each answer held against PlainGate's. */
public final class RunsTest extends Datagrams {
    private static final Checks CHECKS = new Checks();
    private static final int RUNS = 900;
    private static final int MOST_CALLS = 512;
    // Most calls draw from few values, so that packets meet rules and connections.
    private static final String[] ADDRESSES = {"10.0.0.1", "10.0.0.2", "10.0.0.3", "192.168.0.1", "0.0.0.0",
        "255.255.255.255", "10.0.0.0", "128.0.0.0", "127.255.255.255", "1.2.3.4"};
    private static final String[] OPEN = {"policy accept;", "accept state established,related; accept state new;",
        "policy accept; drop state invalid;", "accept proto tcp; accept proto icmp; accept proto udp; reject;",
        "accept state new,established; reject state related;"};
    private static final String[] SLIPS = {"accept", "drop;", "policy drop;", "1.2.3.4", "999", "-", "/8", ",new",
        "establishedx", "123456", ". ", "1.2.3", "1.2.3.4.5", "1.2.3.4x", "?", "A", "\t", "\u00ff", ";", "in 1", " "};
    private static final int[] HOSTS = {0x0a000001, 0x0a000002, 0xc0a80001};
    private static final int[] FLAGS = {2, 2, 18, 18, 16, 16, 17, 17, 1, 4, 20, 0, 3, 58, 63};

    private final Map<String, Method> real = methodsOf(GateHouse.class);
    private final Map<String, Method> plain = methodsOf(PlainGate.class);
    private final GateHouse gate = new GateHouse();
    private final PlainGate reading = new PlainGate();
    private final Random random;
    private final int seed;
    private int calls = 0;

    private RunsTest(int seed) {
        this.seed = seed;
        random = new Random(seed);
    }

    public static void main(String[] args) {
        for (int seed = 0; seed < RUNS; seed++) {
            new RunsTest(seed).run(seed % 3);
        }
        CHECKS.end();
    }

    private static Map<String, Method> methodsOf(Class<?> face) {
        Map<String, Method> all = new HashMap<>();
        for (Method method : face.getDeclaredMethods()) {
            if (Modifier.isPublic(method.getModifiers())) {
                all.put(method.getName(), method);
            }
        }
        return all;
    }

    private static String answer(Object object, Method method, Object[] arguments) {
        try {
            return String.valueOf(method.invoke(object, arguments));
        } catch (InvocationTargetException thrown) {
            return thrown.getCause().getClass().getName();
        } catch (IllegalAccessException refused) {
            return refused.toString();
        }
    }

    /** Makes one call of both; a run ends at its first wrong answer, for what comes behind it tells nothing new. */
    private String call(String name, int... a) {
        if (calls >= MOST_CALLS) {
            return "";
        }
        calls++;
        Object[] arguments = Arrays.stream(a).boxed().toArray();
        String got = answer(gate, real.get(name), arguments);
        String due = answer(reading, plain.get(name), arguments);
        CHECKS.same("run " + seed + ", call " + calls + ", " + name + Arrays.toString(a), got, due);
        calls = got.equals(due) ? calls : MOST_CALLS;
        return got;
    }

    private void run(int kind) {
        if (kind != 0) {
            load(0, chance(70) ? one(OPEN) : text());
        }
        if (chance(50)) {
            call("room", 1 + random.nextInt(4));
        }
        while (calls < MOST_CALLS) {
            if (kind == 0 || kind == 2 && chance(15)) {
                askOfLists(random.nextInt(4));
            } else {
                comeAndLook(kind == 2);
            }
        }
    }

    private boolean chance(int percent) {
        return random.nextInt(100) < percent;
    }

    private int one(int... of) {
        return of[random.nextInt(of.length)];
    }

    private String one(String[] of) {
        return of[random.nextInt(of.length)];
    }

    private void each(String name, int from, int to) {
        for (int what = from; what <= to; what++) {
            call(name, what);
        }
    }

    private void feed(byte[] bytes) {
        call("end", 0);
        byte[] padded = Arrays.copyOf(bytes, (bytes.length + 19) / 20 * 20);
        for (int k = bytes.length; k < padded.length; k++) {
            padded[k] = (byte) random.nextInt();
        }
        for (int k = 0; k < padded.length; k += 20) {
            int[] quads = new int[5];
            for (int j = 0; j < 20; j++) {
                quads[j / 4] = quads[j / 4] << 8 | padded[k + j] & 255;
            }
            call("feed", quads);
        }
        call("end", bytes.length);
    }

    private void load(int list, String text) {
        feed(Checks.octets(text));
        call("load", list);
        call("fault");
        call("count", 0);
    }

    private void askOfLists(int list) {
        if (chance(60)) {
            load(list, text());
        }
        int other = random.nextInt(4);
        switch (random.nextInt(7)) {
            case 0:
                for (int i = 0; i <= reading.rules(list); i++) {
                    call("shadowed", list, i);
                    each("found", 0, 6);
                }
                break;
            case 1:
                call("alike", list, other);
                each("found", -1, 7);
                break;
            case 2:
                call("least", list, other);
                call("alike", list, other);
                call("write", other);
                each("octet", -1, chance(10) ? reading.count(1) : 0);
                break;
            case 3:
                for (int k = 0; k < 6; k++) {
                    int[] p = packet();
                    call("match", list, p[0], p[1], p[2], p[3], p[4], p[5], random.nextInt(4));
                }
                break;
            case 4:
                call("write", list);
                each("octet", -1, chance(30) ? reading.count(1) : 20);
                break;
            case 5:
                lookAtRules(list);
                break;
            default:
                callWrongly();
        }
    }

    private void lookAtRules(int list) {
        call("rules", list);
        boolean all = chance(40);
        for (int i = -1; i <= reading.rules(list); i++) {
            for (int what = all ? -1 : 13; what <= 15; what++) {
                call("rule", list, i, what);
            }
        }
    }

    private void callWrongly() {
        int list = one(-1, 0, 3, 4, Integer.MIN_VALUE, Integer.MAX_VALUE);
        int port = one(-1, 0, 65535, 65536);
        int proto = one(-1, 1, 6, 255, 256);
        call(one(new String[] {"rules", "write", "load"}), list);
        call("rule", list, one(-2, -1, 0, 16), one(-1, 0, 15));
        call("alike", list, one(0, 4));
        call("least", one(-1, 0), list);
        call("shadowed", list, one(-1, 0, 16));
        call("match", list, one(0, 3, 4), proto, -1, 0, port, one(0, 65536), one(-1, 0, 3, 4));
        call("packet", one(-1, 0, 3, 4), proto, -1, 0, port, one(0, 65536), one(-1, 0, 63, 64));
        call("datagram", one(-1, 0, 4));
        call("connection", one(-1, 0, 64), one(-1, 0, 9));
        call("now", one(-1, reading.count(2), 1000000001));
        call("end", one(-1, 0, 2101));
        call("found", one(-1, 0, 7));
        call("octet", one(-1, 0, 5000));
    }

    private void comeAndLook(boolean alsoLoads) {
        int draw = random.nextInt(100);
        if (draw < 55) {
            call("packet", chance(75) ? packetOfConnection() : packet());
        } else if (draw < 68) {
            feed(datagram());
            call("datagram", random.nextInt(4));
            call("fault");
        } else if (draw < 74) {
            call("now", reading.count(2) + one(0, 1, 5, 10, 29, 30, 31, 60, 120, 600, -1));
        } else if (draw < 78) {
            call("pack");
            each("octet", -1, reading.count(1));
        } else if (draw < 90) {
            int from = one(0, 5, 5);
            for (int i = 0; i <= reading.count(4); i++) {
                for (int what = from; what <= 9; what++) {
                    call("connection", i, what);
                }
            }
        } else if (draw < 95) {
            each("count", -1, 8);
        } else if (draw < 97) {
            lookAtRules(0);
        } else if (draw < 98) {
            call("room", one(0, 1, 2, 3, 5, 64, 65));
        } else if (alsoLoads) {
            load(0, text());
        } else {
            callWrongly();
        }
    }

    /** The arguments of packet(). */
    private int[] packet() {
        int proto = one(6, 6, 6, 6, 17, 17, 1, 1, 50, 0, 255);
        int sport = proto == 1 ? one(0x800, 0, 0x801, 0x300, 0xb00, 0x805, 1) : one(1, 2, 80);
        int dport = proto == 1 ? one(0, 5, 7) : one(1, 2, 80);
        return new int[] {random.nextInt(4), proto, one(HOSTS), one(HOSTS), sport, dport, one(FLAGS)};
    }

    private int[] packetOfConnection() {
        int n = reading.count(4);
        if (n == 0) {
            return packet();
        }
        int i = random.nextInt(n);
        int phase = reading.connection(i, 5);
        int firstFin = reading.connection(i, 7);
        // Without help few TCP connections would come to their last phases.
        if (chance(40)) {
            return along(i, chance(50), one(FLAGS));
        }
        boolean either = phase == 0 || phase == 3;
        boolean back = either ? chance(60) : phase == 1 || phase == 4 && firstFin == 1 || phase == 5 && firstFin == 2;
        return along(i, back, new int[] {0, 18, 16, 17, 17, 16, 2, 2}[phase]);
    }

    private int[] along(int i, boolean back, int flags) {
        int proto = reading.connection(i, 0);
        int src = reading.connection(i, back ? 2 : 1);
        int dst = reading.connection(i, back ? 1 : 2);
        int sport = proto == 1 && back ? 0 : reading.connection(i, back ? 4 : 3);
        int dport = reading.connection(i, proto == 1 || !back ? 4 : 3);
        return new int[] {random.nextInt(4), proto, src, dst, sport, dport, flags};
    }

    private byte[] bytesOf(int[] p) {
        byte[] data = new byte[one(0, 0, 1, 2, 8, 27, 28, 41)];
        random.nextBytes(data);
        byte[] body = p[1] == 6 ? tcp(p[4], p[5], p[6], one(0, 0, 1, 10), data.length)
                : p[1] == 17 ? udp(p[4], p[5], data.length)
                : p[1] == 1 ? icmp(p[4] / 256, p[4] % 256, p[5], data) : data;
        return datagram(one(0, 0, 0, 1, 10), p[1], p[2], p[3], body);
    }

    private byte[] datagram() {
        int n = reading.count(4);
        byte[] d = bytesOf(chance(50) ? packetOfConnection() : packet());
        if (n > 0 && chance(40)) {
            byte[] told = bytesOf(along(random.nextInt(n), chance(50), one(FLAGS)));
            told = Arrays.copyOf(told, chance(50) ? told.length : Math.min(told.length, one(20, 27, 28, 29, 31, 32, 68)));
            byte[] report = icmp(one(3, 4, 5, 11, 12, 8, 0, 13), 1, 5, told);
            d = datagram(one(0, 1), 1, one(HOSTS), one(HOSTS), report);
        }
        return chance(25) ? spoilt(d) : d;
    }

    private byte[] spoilt(byte[] d) {
        int t = (d[0] & 15) * 4;
        int k = random.nextInt(d.length);
        switch (random.nextInt(8)) {
            case 0: return with(d, k, d[k] ^ 1 << random.nextInt(8));
            case 1: return Arrays.copyOf(d, k);
            case 2: return Arrays.copyOf(d, d.length + 1);
            case 3: return headerSummed(with(d, 6, one(0x20, 0x40, 0x80, 0xc0, 1, 0x60, 0x1f)));
            case 4: return headerSummed(with(d, 7, one(0, 1, 128)));
            case 5: return with(d, 0, one(0, 68, 70, 79, 80, 255));
            case 6: return cut(d, Math.max(t, d.length - one(1, 4, 8, 20)));
            default: return otherBody(d, t);
        }
    }

    private byte[] cut(byte[] d, int length) {
        byte[] shorter = Arrays.copyOf(d, length);
        pair(shorter, 2, length);
        return chance(50) ? summed(shorter) : headerSummed(shorter);
    }

    private byte[] otherBody(byte[] d, int t) {
        if (d[9] == 6) {
            return summed(with(d, t + 12, one(0x00, 0x40, 0x50, 0x60, 0xf0)));
        }
        if (d[9] == 17) {
            return chance(50) ? with(with(d, t + 6, 0), t + 7, 0) : summed(with(d, t + 5, one(0, 7, 8, 9)));
        }
        return d;
    }

    private String range(int... of) {
        int a = one(of);
        int b = one(of);
        boolean turned = b < a && chance(97);
        return chance(50) ? "" + a : (turned ? b : a) + one(new String[] {"-", " - ", "-\n"}) + (turned ? a : b);
    }

    private String addresses() {
        switch (random.nextInt(3)) {
            case 0: return one(ADDRESSES);
            case 1: return one(ADDRESSES) + "/" + one(0, 1, 8, 24, 30, 31, 32, chance(10) ? 33 : 16);
            default: return one(new String[] {"0.0.0.0-", "10.0.0.0-", "10.0.0.2-", "128.0.0.0 - "}) + one(ADDRESSES);
        }
    }

    private String states() {
        String[] words = {"new", "established", "related", "invalid"};
        String all = one(words);
        while (chance(40)) {
            all += one(new String[] {",", " , "}) + one(words);
        }
        return all;
    }

    private String rule(int percent) {
        String[] parts = {"in " + range(0, 1, 2, 3), "proto " + range(0, 1, 6, 17, 50, 255), "from " + addresses(),
            "to " + addresses(), "sport " + range(0, 1, 2, 80, 768, 2048, 65535), "dport " + range(0, 1, 2, 80, 65535),
            "state " + states()};
        parts[1] = chance(60) ? "proto " + one(new String[] {"tcp", "udp", "icmp"}) : parts[1];
        StringBuilder rule = new StringBuilder(one(new String[] {"drop", "accept", "accept", "reject"}));
        int first = chance(20) ? random.nextInt(7) : 0;
        for (int k = 0; k < (chance(2) ? 8 : 7); k++) {
            rule.append(chance(percent) ? one(new String[] {" ", " ", "\n", "  "}) + parts[(first + k) % 7] : "");
        }
        return rule.append(chance(10) ? " ;" : ";").toString();
    }

    private String text() {
        StringBuilder text = new StringBuilder(chance(60) ? "policy " + one(new String[] {"drop", "accept", "reject"}) + ";" : "");
        int rules = chance(97) ? random.nextInt(8) : one(15, 16, 17);
        int percent = rules > 8 ? 15 : one(15, 30, 50);
        for (int k = 0; k < rules; k++) {
            text.append(one(new String[] {"", " ", "\n"})).append(rule(percent));
        }
        if (chance(35)) {
            int place = random.nextInt(text.length() + 1);
            int behind = Math.min(text.length(), place + random.nextInt(3));
            text.replace(place, behind, chance(70) ? one(SLIPS) : "");
        }
        if (chance(5)) {
            int missing = one(1999, 2000, 2001, 2020, 2100) - text.length();
            text.insert(random.nextInt(text.length() + 1), " ".repeat(Math.max(0, missing)));
        }
        return text.toString();
    }
}
