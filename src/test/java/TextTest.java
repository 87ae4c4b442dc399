import java.util.NoSuchElementException;

/** Promises 4 to 9: the text of a list, its faults, its rules, and how it is written. */
public final class TextTest {
    private static final Checks CHECKS = new Checks();

    public static void main(String[] args) {
        goodTexts();
        parts();
        wrongCalls();
        noTokens();
        cantCome();
        outOfRange();
        tooMany();
        longTexts();
        whatFaultsLeave();
        longestWritten();
        CHECKS.end();
    }

    private static void good(String text, int rules, String written) {
        GateHouse gate = new GateHouse();
        CHECKS.same("load of " + text, Checks.load(gate, 1, text), rules);
        CHECKS.same("fault of " + text, gate.fault(), 0);
        CHECKS.same("rules of " + text, gate.rules(1), rules);
        CHECKS.same("tape behind " + text, gate.count(0), 0);
        CHECKS.same("written " + text, Checks.written(gate, 1), written);
        CHECKS.same("length of " + text, gate.write(1), written.length());
        // What is written is a text of the same list.
        CHECKS.same("load again", Checks.load(gate, 2, written), rules);
        CHECKS.same("written again", Checks.written(gate, 2), written);
    }

    private static void bad(String text, int place, int kind) {
        GateHouse gate = new GateHouse();
        CHECKS.same("load of " + text, Checks.load(gate, 1, text), -1 - place);
        CHECKS.same("fault of " + text, gate.fault(), kind);
        CHECKS.same("rules behind " + text, gate.rules(1), 0);
        CHECKS.same("tape behind " + text, gate.count(0), 0);
    }

    private static void goodTexts() {
        good("", 0, "policy drop;\n");
        good(" \n ", 0, "policy drop;\n");
        good("policy reject;", 0, "policy reject;\n");
        good("policy\naccept\n;\n", 0, "policy accept;\n");
        good("drop;", 1, "policy drop;\ndrop;\n");
        good("policy accept;drop;accept;reject;", 3, "policy accept;\ndrop;\naccept;\nreject;\n");
        good("drop in 2;", 1, "policy drop;\ndrop in 2;\n");
        good("drop in 0 - 3;", 1, "policy drop;\ndrop;\n");
        good("drop in 1-1;", 1, "policy drop;\ndrop in 1;\n");
        good("drop in 00003;", 1, "policy drop;\ndrop in 3;\n");
        good("drop proto tcp;drop proto udp;drop proto icmp;", 3,
                "policy drop;\ndrop proto 6;\ndrop proto 17;\ndrop proto 1;\n");
        good("drop proto 0-255;drop proto 1-255;", 2, "policy drop;\ndrop;\ndrop proto 1-255;\n");
        good("drop sport 0-65535 dport 65535;", 1, "policy drop;\ndrop dport 65535;\n");
        good("drop dport 0-9 sport 10000-60000;", 1, "policy drop;\ndrop sport 10000-60000 dport 0-9;\n");
        good("drop state new,new , new;", 1, "policy drop;\ndrop state new;\n");
        good("drop state invalid,related,established,new;", 1, "policy drop;\ndrop;\n");
        good("drop state invalid,established in 1;", 1, "policy drop;\ndrop in 1 state established,invalid;\n");
        good("reject to 1.2.3.4 from 255.255.255.255;", 1, "policy drop;\nreject from 255.255.255.255 to 1.2.3.4;\n");
        good("drop from 0.0.0.0-255.255.255.255;", 1, "policy drop;\ndrop;\n");
        good("drop from 001.02.3.004;", 1, "policy drop;\ndrop from 1.2.3.4;\n");
        good("drop from 200.0.0.1-200.0.0.2;", 1, "policy drop;\ndrop from 200.0.0.1-200.0.0.2;\n");
        good("drop from 1.2.3.4/0;", 1, "policy drop;\ndrop;\n");
        good("drop from 1.2.3.4/32;", 1, "policy drop;\ndrop from 1.2.3.4;\n");
        good("drop from 1.2.3.4 / 31;", 1, "policy drop;\ndrop from 1.2.3.4-1.2.3.5;\n");
        good("drop to 200.1.2.3/1;", 1, "policy drop;\ndrop to 128.0.0.0-255.255.255.255;\n");
        good("drop to 10.9.8.7/8;", 1, "policy drop;\ndrop to 10.0.0.0-10.255.255.255;\n");
        good("accept;".repeat(16), 16, "policy drop;\n" + "accept;\n".repeat(16));
    }

    private static void parts() {
        GateHouse gate = new GateHouse();
        Checks.load(gate, 3, "policy reject; drop; accept in 1-2 proto 3-4 from 128.0.0.5-255.0.0.6"
                + " to 0.0.0.7-0.0.0.8 sport 9-10 dport 11-12 state established,invalid;");
        int[] all = {0, 15, 0, 3, 0, 255, 0, -1, 0, -1, 0, 65535, 0, 65535, 0};
        int[] some = {1, 10, 1, 2, 3, 4, 0x80000005, 0xff000006, 7, 8, 9, 10, 11, 12, 0};
        for (int what = 0; what < 15; what++) {
            CHECKS.same("rule of all " + what, gate.rule(3, 0, what), all[what]);
            CHECKS.same("rule of some " + what, gate.rule(3, 1, what), some[what]);
        }
        CHECKS.same("policy", gate.rule(3, GateHouse.NONE, 0), 2);
        CHECKS.same("policy told", gate.rule(3, GateHouse.NONE, 14), 0);
        // A text without a policy has the first one, whatever was before.
        Checks.load(gate, 3, "drop;");
        CHECKS.same("policy again", gate.rule(3, GateHouse.NONE, 0), 0);
        CHECKS.same("rules again", gate.rules(3), 1);
    }

    private static void wrongCalls() {
        GateHouse gate = Checks.gateWith("policy accept;drop in 1;");
        Class<IndexOutOfBoundsException> noList = IndexOutOfBoundsException.class;
        Class<NoSuchElementException> noRule = NoSuchElementException.class;
        Checks.feed(gate, Checks.octets("what is no text"));
        for (int list : new int[] {-1, 4, Integer.MAX_VALUE, Integer.MIN_VALUE}) {
            CHECKS.refused("load", noList, () -> gate.load(list));
            CHECKS.refused("rules", noList, () -> gate.rules(list));
            CHECKS.refused("rule", noList, () -> gate.rule(list, 0, 0));
            CHECKS.refused("rule, all wrong", noList, () -> gate.rule(list, 99, 99));
            CHECKS.refused("write", noList, () -> gate.write(list));
        }
        CHECKS.same("fault stays", gate.fault(), 0);
        CHECKS.same("tape stays", gate.count(0), 15);
        CHECKS.same("OUT stays", gate.count(1), 0);
        for (int i : new int[] {1, 16, -2, Integer.MAX_VALUE, Integer.MIN_VALUE}) {
            CHECKS.refused("rule " + i, noRule, () -> gate.rule(0, i, 0));
        }
        for (int what : new int[] {-1, 15, Integer.MAX_VALUE, Integer.MIN_VALUE}) {
            CHECKS.refused("part " + what, noRule, () -> gate.rule(0, 0, what));
        }
        for (int what = -1; what < 17; what++) {
            int part = what;
            if (part != 0 && part != 14) {
                CHECKS.refused("policy's part " + part, noRule, () -> gate.rule(0, GateHouse.NONE, part));
            }
        }
    }

    private static void noTokens() {
        bad("Drop;", 0, 1);
        bad("drop\t;", 4, 1);
        bad("drop; #", 6, 1);
        bad("drop in 1x;", 8, 1);
        bad("drop in1;", 5, 1);
        bad("drop5;", 0, 1);
        bad("acceptaccept;", 0, 1);
        bad("drop state establishedd;", 11, 1);
        bad("drop sport 000001;", 11, 1);
        bad("drop sport 65536789;", 11, 1);
        bad("drop sport 5.;", 11, 1);
        bad("drop from 1.2.3;", 10, 1);
        bad("drop from 1.2.3.4.5;", 10, 1);
        bad("drop from 1.2.3.;", 10, 1);
        bad("drop from 1..3.4;", 10, 1);
        bad("drop from 1.2.3.256;", 10, 1);
        bad("drop from 1.2.3.0001;", 10, 1);
        bad("drop from 1.2.3.4x;", 10, 1);
        bad("drop from 1.2.3.4. ;", 10, 1);
        bad("drop from .1.2.3;", 10, 1);
        bad("drop from 1.2.3.4-1.2.3.400;", 18, 1);
        bad("" + (char) 0, 0, 1);
        bad("drop" + (char) 228 + ";", 4, 1);
        // Of one token the least: it could not come either.
        bad("drop in ?;", 8, 1);
    }

    private static void cantCome() {
        bad("policy", 6, 2);
        bad("policy  ", 8, 2);
        bad("policy drop", 11, 2);
        bad("policy;", 6, 2);
        bad("policy policy;", 7, 2);
        bad("policy drop accept;", 12, 2);
        bad("policy drop; policy drop;", 13, 2);
        bad("drop; policy drop;", 6, 2);
        bad(";", 0, 2);
        bad("drop;;", 5, 2);
        bad("1;", 0, 2);
        bad("1.2.3.4;", 0, 2);
        bad("foo;", 0, 2);
        bad("drop", 4, 2);
        bad("drop \n", 6, 2);
        bad("drop accept;", 5, 2);
        bad("drop 5;", 5, 2);
        bad("drop ,;", 5, 2);
        bad("drop in;", 7, 2);
        bad("drop in", 7, 2);
        bad("drop in tcp;", 8, 2);
        bad("drop in 1.2.3.4;", 8, 2);
        bad("drop in 1-;", 10, 2);
        bad("drop in 1-2-3;", 11, 2);
        bad("drop in 1/2;", 9, 2);
        bad("drop in 1,2;", 9, 2);
        bad("drop in 1 2;", 10, 2);
        bad("drop proto tcp-udp;", 14, 2);
        bad("drop proto 6-udp;", 13, 2);
        bad("drop proto gre;", 11, 2);
        bad("drop proto 1.2.3.4;", 11, 2);
        bad("drop from 99999;", 10, 2);
        bad("drop from all;", 10, 2);
        bad("drop from 1.2.3.4-5;", 18, 2);
        bad("drop from 1.2.3.4/1.2.3.4;", 18, 2);
        bad("drop from 1.2.3.4/24-1.2.3.4;", 20, 2);
        bad("drop from 1.2.3.4-1.2.3.5/24;", 25, 2);
        bad("drop from 1.2.3.4/;", 18, 2);
        bad("drop state;", 10, 2);
        bad("drop state new,;", 15, 2);
        bad("drop state ,new;", 11, 2);
        bad("drop state new new;", 15, 2);
        bad("drop state 1;", 11, 2);
        bad("drop sport 80", 13, 2);
        bad("drop from 1.2.3.4", 17, 2);
    }

    private static void outOfRange() {
        bad("drop in 4;", 8, 3);
        bad("drop in 1-4;", 10, 3);
        bad("drop in 2-1;", 10, 3);
        bad("drop in 99999;", 8, 3);
        bad("drop proto 256;", 11, 3);
        bad("drop proto 255-256;", 15, 3);
        bad("drop proto 9-8;", 13, 3);
        bad("drop sport 65536;", 11, 3);
        bad("drop sport 1-65536;", 13, 3);
        bad("drop dport 65536;", 11, 3);
        bad("drop dport 80-79;", 14, 3);
        bad("drop from 1.2.3.4/33;", 18, 3);
        bad("drop from 200.0.0.0-199.255.255.255;", 20, 3);
        bad("drop to 128.0.0.0-127.0.0.0;", 18, 3);
    }

    private static void tooMany() {
        bad("drop in 1 in 1;", 10, 4);
        bad("drop in 1 proto tcp in ?;", 20, 4);
        bad("drop from 1.2.3.4 to 1.2.3.4 from 1.2.3.4;", 29, 4);
        bad("drop state new state new;", 15, 4);
        bad("drop in 1 proto 1 from 1.1.1.1 to 1.1.1.1 sport 1 dport 1 state new dport 1;", 68, 4);
        bad("drop;".repeat(16) + " accept;", 81, 4);
        bad("drop;".repeat(16) + " policy accept;", 81, 2);
        bad("drop;".repeat(16) + " ?", 81, 1);
    }

    private static void longTexts() {
        String blanks = " ".repeat(2100);
        String rule = "drop;";
        good(rule + blanks.substring(0, 1995), 1, "policy drop;\ndrop;\n");
        good(blanks.substring(0, 1995) + rule, 1, "policy drop;\ndrop;\n");
        bad(rule + blanks.substring(0, 1996), 2000, 4);
        bad(blanks, 2000, 4);
        bad(blanks.substring(0, 1996) + rule, 2000, 4);
        bad(blanks.substring(0, 1998) + rule, 2000, 4);
        bad("drop" + blanks.substring(0, 2000), 2000, 4);
        bad("drop ?" + blanks.substring(0, 2000), 5, 1);
        bad("foo" + blanks.substring(0, 2000), 0, 2);
        bad(blanks.substring(0, 2000) + "?", 2000, 4);
        bad(blanks.substring(0, 1999) + "?" + blanks.substring(0, 20), 1999, 1);
        // A tape of exactly as many bytes as a text may have ends there.
        bad("drop" + blanks.substring(0, 1996), 2000, 2);
    }

    private static void whatFaultsLeave() {
        GateHouse gate = Checks.gateWith("policy accept;drop in 1;");
        gate.packet(1, 50, 0, 0, 0, 0, 0);
        gate.packet(0, 50, 0, 0, 0, 0, 0);
        CHECKS.same("fault", Checks.load(gate, 0, "policy reject;accept in 9;"), -25);
        CHECKS.same("its kind", gate.fault(), 3);
        CHECKS.same("list stays", Checks.written(gate, 0), "policy accept;\ndrop in 1;\n");
        CHECKS.same("told stays", gate.rule(0, 0, 14), 1);
        CHECKS.same("policy's told stays", gate.rule(0, GateHouse.NONE, 14), 1);
        CHECKS.refused("load", IndexOutOfBoundsException.class, () -> gate.load(4));
        CHECKS.same("kind stays behind a throw", gate.fault(), 3);
        CHECKS.same("same list again", Checks.load(gate, 0, "policy accept;drop in 1;"), 1);
        CHECKS.same("no fault now", gate.fault(), 0);
        CHECKS.same("told goes", gate.rule(0, 0, 14), 0);
        CHECKS.same("policy's told goes", gate.rule(0, GateHouse.NONE, 14), 0);
    }

    private static void longestWritten() {
        String one = "accept in 1-2 proto 100-254 from 100.100.100.100-255.255.255.254"
                + " to 100.100.100.100-255.255.255.254 sport 10000-65534 dport 10000-65534"
                + " state established,related,invalid;\n";
        GateHouse gate = new GateHouse();
        CHECKS.same("a long rule", Checks.load(gate, 0, one), 1);
        CHECKS.same("written", Checks.written(gate, 0), "policy drop;\n" + one);
        // A list may be longer as it is written than a text may be.
        String wide = "accept in 1-2 proto 100-254 from 0.0.0.0/1 to 128.0.0.0/1 sport 10000-65534 dport 10000-65534 state new,related;";
        CHECKS.same("16 rules", Checks.load(gate, 1, wide.repeat(16)), 16);
        String spelt = "accept in 1-2 proto 100-254 from 0.0.0.0-127.255.255.255 to 128.0.0.0-255.255.255.255"
                + " sport 10000-65534 dport 10000-65534 state new,related;\n";
        CHECKS.same("longer than a text", gate.write(1) > 2000, true);
        CHECKS.same("16 rules written", Checks.writtenByMany(wide.repeat(16)), "policy drop;\n" + spelt.repeat(16));
    }
}
