import java.util.NoSuchElementException;

/** Promises 1, 2, 3, 9 and 21: a new object, the tape, OUT and the counts. */
public final class TapeTest {
    private static final Checks CHECKS = new Checks();

    public static void main(String[] args) {
        newObject();
        feeding();
        ending();
        octets();
        counts();
        CHECKS.end();
    }

    private static void newObject() {
        GateHouse gate = new GateHouse();
        int[] due = {0, 0, 0, 8, 0, 0, 0, 0};
        for (int what = 0; what < due.length; what++) {
            CHECKS.same("count of a new object " + what, gate.count(what), due[what]);
        }
        CHECKS.same("fault of a new object", gate.fault(), 0);
        for (int list = 0; list < 4; list++) {
            CHECKS.same("rules of a new object", gate.rules(list), 0);
            CHECKS.same("policy of a new object", gate.rule(list, GateHouse.NONE, 0), 0);
            CHECKS.same("a new list written", Checks.written(gate, list), "policy drop;\n");
        }
        GateHouse other = new GateHouse();
        CHECKS.refused("octet of a new object", NoSuchElementException.class, () -> other.octet(0));
        CHECKS.refused("found of a new object", NoSuchElementException.class, () -> other.found(0));
        CHECKS.refused("pack of a new object", NoSuchElementException.class, () -> other.pack());
        CHECKS.refused("connection of a new object", NoSuchElementException.class, () -> other.connection(0, 0));
        CHECKS.same("NONE", GateHouse.NONE, -1);
    }

    private static void feeding() {
        GateHouse gate = new GateHouse();
        for (int k = 1; k <= 105; k++) {
            CHECKS.same("feed", gate.feed(k, -k, Integer.MIN_VALUE, Integer.MAX_VALUE, 0), 20 * k);
        }
        CHECKS.same("feed beyond 2100", gate.feed(1, 2, 3, 4, 5), GateHouse.NONE);
        CHECKS.same("tape stays", gate.count(0), 2100);
        CHECKS.same("end", gate.end(2081), true);
        CHECKS.same("feed to 2101", gate.feed(1, 2, 3, 4, 5), GateHouse.NONE);
        CHECKS.same("tape stays", gate.count(0), 2081);
        CHECKS.same("end", gate.end(2080), true);
        CHECKS.same("feed to 2100", gate.feed(1, 2, 3, 4, 5), 2100);
    }

    private static void ending() {
        GateHouse gate = new GateHouse();
        CHECKS.same("end of nothing", gate.end(0), true);
        CHECKS.same("end beyond", gate.end(1), false);
        gate.feed(0, 0, 0, 0, 0);
        CHECKS.same("end beyond", gate.end(21), false);
        CHECKS.same("end below 0", gate.end(-1), false);
        CHECKS.same("end far below 0", gate.end(Integer.MIN_VALUE), false);
        CHECKS.same("tape stays", gate.count(0), 20);
        CHECKS.same("end at the end", gate.end(20), true);
        CHECKS.same("end within", gate.end(7), true);
        CHECKS.same("tape is cut", gate.count(0), 7);
        CHECKS.same("end beyond what was cut", gate.end(8), false);
        // The highest byte of each number comes first, behind what was kept.
        gate.end(0);
        Checks.feed(gate, Checks.octets("po"));
        Checks.feed(gate, Checks.octets("licy reject;"));
        CHECKS.same("text in two feeds", gate.load(2), 0);
        CHECKS.same("policy of that text", gate.rule(2, GateHouse.NONE, 0), 2);
        CHECKS.same("tape is empty behind a load", gate.count(0), 0);
    }

    private static void octets() {
        GateHouse gate = new GateHouse();
        CHECKS.same("bytes written", gate.write(0), 13);
        CHECKS.same("first byte", gate.octet(0), 'p');
        CHECKS.same("last byte", gate.octet(12), 10);
        CHECKS.refused("byte behind the last", NoSuchElementException.class, () -> gate.octet(13));
        CHECKS.refused("byte below 0", NoSuchElementException.class, () -> gate.octet(-1));
        CHECKS.refused("byte far off", NoSuchElementException.class, () -> gate.octet(Integer.MAX_VALUE));
        gate.packet(0, 200, -1, -2, 0, 0, 0);
        CHECKS.same("bytes packed", gate.pack(), 20);
        CHECKS.same("a high byte", gate.octet(12), 255);
        CHECKS.same("its last byte", gate.octet(19), 254);
    }

    private static void counts() {
        GateHouse gate = Checks.gateWith("policy accept;");
        gate.feed(0, 0, 0, 0, 0);
        gate.write(0);
        gate.now(77);
        gate.room(2);
        for (int k = 0; k < 3; k++) {
            gate.packet(0, 17, 1, 2, 3, k, 0);
        }
        gate.packet(0, 17, 2, 1, 1, 3, 0);
        gate.packet(0, 17, 2, 1, 2, 3, 0);
        gate.packet(0, 17, 9, 9, 9, 8, 0);
        int[] due = {20, 15, 77, 2, 2, 6, 1, 1};
        for (int what = 0; what < due.length; what++) {
            CHECKS.same("count " + what, gate.count(what), due[what]);
        }
        for (int what : new int[] {-1, 8, Integer.MAX_VALUE, Integer.MIN_VALUE}) {
            CHECKS.same("count of nothing", gate.count(what), GateHouse.NONE);
        }
    }
}
