import java.util.NoSuchElementException;

/**
 * Sentences of the document's second part (lists, their text, tokens and faults) and of promises 4 to 8 that name
 * a boundary case: each has a method of its own, which names it first.
 */
public final class TextSentencesTest extends Datagrams {
    private static final Checks CHECKS = new Checks();
    private static final int NONE = GateHouse.NONE;
    private static final int LEAST = Integer.MIN_VALUE;
    private static final int MOST = Integer.MAX_VALUE;
    private static final String BLANKS = " ".repeat(2100);

    public static void main(String[] args) {
        policyAtFirst();
        sixteenRules();
        seventeenRules();
        fromAndUpTo();
        byAll();
        firstTells();
        longestText();
        policyOnce();
        partsOnce();
        partsInAnyOrder();
        statesTwice();
        protocolWords();
        rangeOfOne();
        addressesByBits();
        withoutPart();
        blanks();
        words();
        numbers();
        addresses();
        runs();
        addressRuns();
        firstAlongTheText();
        leastOfOneToken();
        noToken();
        theEnd();
        cantCome();
        numbersThatMayNotStand();
        secondBelowFirst();
        partTwice();
        byte2000();
        writtenPolicy();
        writtenParts();
        writtenRanges();
        writtenStates();
        loadAnswers();
        loadFault();
        loadNoList();
        faultOfLatest();
        rulesOfList();
        ruleParts();
        ruleTold();
        rulePolicy();
        ruleRefused();
        writeLength();
        CHECKS.end();
    }

    private static void terms(String words) {
        CHECKS.sentence("Terms, 2", words);
    }

    /** The text is a list, which is written as told. */
    private static void good(String text, String written) {
        GateHouse gate = new GateHouse();
        int rules = written.split("\n", -1).length - 1;
        CHECKS.same("load of <" + text.trim() + ">", Checks.load(gate, 1, text), rules);
        CHECKS.same("fault of <" + text.trim() + ">", gate.fault(), 0);
        CHECKS.same("<" + text.trim() + "> written", Checks.written(gate, 1), "policy drop;\n" + written);
    }

    /** The text has a fault of a kind at a place. */
    private static void bad(String text, int place, int kind) {
        GateHouse gate = new GateHouse();
        CHECKS.same("load of <" + text.trim() + ">", Checks.load(gate, 1, text), -1 - place);
        CHECKS.same("fault of <" + text.trim() + ">", gate.fault(), kind);
        CHECKS.same("rules behind <" + text.trim() + ">", gate.rules(1), 0);
    }

    private static void policyAtFirst() {
        terms("LISTS 0 .. 3 have a POLICY (an ACTION; drop at first)");
        GateHouse gate = new GateHouse();
        for (int list = 0; list <= 3; list++) {
            CHECKS.same("policy of " + list, gate.rule(list, NONE, 0), 0);
            CHECKS.same("load of " + list, Checks.load(gate, list, "policy reject;"), 0);
            CHECKS.same("policy of " + list, gate.rule(list, NONE, 0), 2);
            // A text that tells none has the first one again.
            CHECKS.same("load of " + list, Checks.load(gate, list, ""), 0);
            CHECKS.same("policy of " + list, gate.rule(list, NONE, 0), 0);
        }
    }

    private static void sixteenRules() {
        terms("RULES, 16 at most");
        good("accept;".repeat(15), "accept;\n".repeat(15));
        good("accept;".repeat(16), "accept;\n".repeat(16));
        GateHouse gate = new GateHouse();
        StringBuilder text = new StringBuilder("policy reject;");
        for (int k = 0; k < 16; k++) {
            text.append("drop dport ").append(k).append(';');
        }
        CHECKS.same("16 rules", Checks.load(gate, 0, text.toString()), 16);
        CHECKS.same("the last one", gate.match(0, 0, 0, 0, 0, 0, 15, 0), 15);
        CHECKS.same("behind it", gate.match(0, 0, 0, 0, 0, 0, 16, 0), NONE);
        CHECKS.same("the last one's part", gate.rule(0, 15, 12), 15);
    }

    private static void seventeenRules() {
        terms("4 one too many (a 17th RULE at its ACTION");
        String full = "drop;".repeat(16);
        bad(full + "drop;", 80, 4);
        bad(full + " \n reject", 83, 4);
        bad("policy accept;" + full + "accept in 1;", 94, 4);
        // What could not come even if there were room is a fault of another kind.
        bad(full + "foo;", 80, 2);
        bad(full + "policy drop;", 80, 2);
        bad(full + ";", 80, 2);
        bad(full + "?", 80, 1);
        good(full + " \n", "drop;\n".repeat(16));
    }

    private static void fromAndUpTo() {
        terms("for each of IN, PROTO, SRC, DST, SPORT, DPORT, what from and up to what it MATCHES");
        GateHouse gate = new GateHouse();
        Checks.load(gate, 0, "drop in 1-2 proto 7-9 from 127.255.255.255-128.0.0.1 to 0.0.0.5-0.0.0.6"
                + " sport 100-200 dport 65533-65534;");
        int[][] low = {{1, 7, 0x7fffffff, 5, 100, 65533}, {0, 6, 0x7ffffffe, 4, 99, 65532}};
        int[][] high = {{2, 9, 0x80000001, 6, 200, 65534}, {3, 10, 0x80000002, 7, 201, 65535}};
        CHECKS.same("from", matched(gate, low[0]), 0);
        CHECKS.same("up to", matched(gate, high[0]), 0);
        for (int f = 0; f < 6; f++) {
            int[] below = low[0].clone();
            below[f] = low[1][f];
            CHECKS.same("one below, field " + f, matched(gate, below), NONE);
            int[] above = high[0].clone();
            above[f] = high[1][f];
            CHECKS.same("one above, field " + f, matched(gate, above), NONE);
        }
    }

    private static int matched(GateHouse gate, int[] p) {
        return gate.match(0, p[0], p[1], p[2], p[3], p[4], p[5], 0);
    }

    private static void byAll() {
        terms("A packet in a STATE MATCHES, if it does so by all.");
        GateHouse gate = new GateHouse();
        for (int states = 1; states < 16; states++) {
            StringBuilder text = new StringBuilder();
            String[] words = {"new", "established", "related", "invalid"};
            for (int s = 0; s < 4; s++) {
                text.append((states >> s & 1) == 0 ? "" : text.length() == 0 ? words[s] : "," + words[s]);
            }
            Checks.load(gate, 0, "accept proto 9 state " + text + ";");
            CHECKS.same("states " + states, gate.rule(0, 0, 1), states);
            for (int s = 0; s < 4; s++) {
                int due = (states >> s & 1) == 0 ? NONE : 0;
                CHECKS.same("state " + s + " of " + states, gate.match(0, 0, 9, 0, 0, 0, 0, s), due);
                CHECKS.same("not by the field", gate.match(0, 0, 8, 0, 0, 0, 0, s), NONE);
            }
        }
    }

    private static void firstTells() {
        terms("The first RULE that it MATCHES tells the ACTION; without one the POLICY.");
        GateHouse gate = Checks.gateWith("policy reject; drop in 1; accept in 1-2; drop in 2-3 dport 5;");
        int[][] due = {{0, 5, 2, NONE}, {1, 5, 0, 0}, {2, 5, 1, 1}, {3, 5, 0, 2}, {3, 6, 2, NONE}};
        for (int[] d : due) {
            CHECKS.same("in " + d[0] + " dport " + d[1], gate.packet(d[0], 50, 1, 2, 3, d[1], 0) & 3, d[2]);
            CHECKS.same("matched", gate.match(0, d[0], 50, 1, 2, 3, d[1], 0), d[3]);
        }
    }

    private static void longestText() {
        terms("TEXT of a LIST, at most 2000 bytes");
        good(BLANKS.substring(0, 1995) + "drop;", "drop;\n");
        good("drop;" + BLANKS.substring(0, 1995), "drop;\n");
        good(BLANKS.substring(0, 2000), "");
        good("drop" + BLANKS.substring(0, 1995) + ";", "drop;\n");
        bad("drop;" + BLANKS.substring(0, 1996), 2000, 4);
        bad(BLANKS.substring(0, 2001), 2000, 4);
        bad(BLANKS, 2000, 4);
    }

    private static void policyOnce() {
        terms("[ 'policy' ACTION ; ] { ACTION { PART } ; }");
        GateHouse gate = new GateHouse();
        String[] actions = {"drop", "accept", "reject"};
        for (int k = 0; k < 3; k++) {
            CHECKS.same("policy " + actions[k], Checks.load(gate, 0, "policy " + actions[k] + ";" + actions[k] + ";"), 1);
            CHECKS.same("policy " + actions[k], gate.rule(0, NONE, 0), k);
            CHECKS.same("rule " + actions[k], gate.rule(0, 0, 0), k);
        }
        good("", "");
        bad("policy drop; policy drop;", 13, 2);
        bad("drop; policy drop;", 6, 2);
        bad("policy drop", 11, 2);
        bad("policy ;", 7, 2);
        bad("policy drop in 1;", 12, 2);
        bad("policy new;", 7, 2);
        bad(";", 0, 2);
        bad("drop;;", 5, 2);
    }

    private static void partsOnce() {
        terms("PART, each at most once in a RULE");
        String all = " in 1 proto 2 from 0.0.0.3 to 0.0.0.4 sport 5 dport 6 state new";
        good("drop" + all + ";", "drop" + all + ";\n");
        // Each may stand again in the next rule.
        good("drop" + all + ";accept" + all + ";", "drop" + all + ";\naccept" + all + ";\n");
        String[] parts = {" in 1", " proto 2", " from 0.0.0.3", " to 0.0.0.4", " sport 5", " dport 6", " state new"};
        for (String part : parts) {
            bad("drop" + all + part + ";", 5 + all.length(), 4);
            bad("drop" + part + part + ";", 5 + part.length(), 4);
            bad("drop;drop" + part + part + ";", 10 + part.length(), 4);
        }
    }

    private static void partsInAnyOrder() {
        terms("ACTION { PART } ;");
        good("drop state new dport 6 sport 5 to 0.0.0.4 from 0.0.0.3 proto 2 in 1;",
                "drop in 1 proto 2 from 0.0.0.3 to 0.0.0.4 sport 5 dport 6 state new;\n");
        good("drop dport 6-7 in 1-2 to 0.0.0.4/30 state new,related proto tcp;",
                "drop in 1-2 proto 6 to 0.0.0.4-0.0.0.7 dport 6-7 state new,related;\n");
    }

    private static void statesTwice() {
        terms("STATE: 'new' | 'established' | 'related' | 'invalid' (one told twice counts once).");
        good("drop state new,new;", "drop state new;\n");
        good("drop state invalid,new,invalid,new,invalid;", "drop state new,invalid;\n");
        good("drop state new,established,related,new;", "drop state new,established,related;\n");
        good("drop state new,established,related,invalid,new;", "drop;\n");
        bad("drop state;", 10, 2);
        bad("drop state new,;", 15, 2);
        bad("drop state new established;", 15, 2);
        bad("drop state new-related;", 14, 2);
        bad("drop state drop;", 11, 2);
    }

    private static void protocolWords() {
        terms("'proto' ( 'tcp' | 'udp' | 'icmp' | RANGE )");
        good("drop proto tcp;drop proto udp;drop proto icmp;", "drop proto 6;\ndrop proto 17;\ndrop proto 1;\n");
        good("drop proto 6-17;drop proto 0;drop proto 255;", "drop proto 6-17;\ndrop proto 0;\ndrop proto 255;\n");
        bad("drop proto tcp-udp;", 14, 2);
        bad("drop proto 6-udp;", 13, 2);
        bad("drop proto tcp,udp;", 14, 2);
        bad("drop proto sctp;", 11, 2);
        bad("drop in tcp;", 8, 2);
        bad("drop sport tcp;", 11, 2);
    }

    private static void rangeOfOne() {
        terms("RANGE: NUMBER [ - NUMBER ].");
        good("drop in 2-2 proto 9-9 sport 0-0 dport 65535-65535;", "drop in 2 proto 9 sport 0 dport 65535;\n");
        good("drop in 0 - 3 proto 0\n-\n255 sport 0- 65535 dport 0 -65535;", "drop;\n");
        good("drop in 0-2;drop in 1-3;", "drop in 0-2;\ndrop in 1-3;\n");
        bad("drop sport 1-2-3;", 14, 2);
        bad("drop sport -1;", 11, 2);
        bad("drop sport 1-;", 13, 2);
        bad("drop sport 1/2;", 12, 2);
    }

    private static void addressesByBits() {
        terms("ADDRESS [ - ADDRESS | / NUMBER ] (/ n: all with these first n bits)");
        good("drop from 1.2.3.4/0;", "drop;\n");
        good("drop from 1.2.3.4/1;", "drop from 0.0.0.0-127.255.255.255;\n");
        good("drop from 255.2.3.4/1;", "drop from 128.0.0.0-255.255.255.255;\n");
        good("drop from 10.9.8.7/8;", "drop from 10.0.0.0-10.255.255.255;\n");
        good("drop to 10.9.8.7/31;", "drop to 10.9.8.6-10.9.8.7;\n");
        good("drop to 10.9.8.7/32;", "drop to 10.9.8.7;\n");
        good("drop to 10.9.8.7 / 00032;", "drop to 10.9.8.7;\n");
        good("drop to 10.9.8.7;", "drop to 10.9.8.7;\n");
        bad("drop to 10.9.8.7/33;", 17, 3);
        bad("drop to 10.9.8.7/99999;", 17, 3);
        bad("drop to 10.9.8.7/8-10.9.9.9;", 18, 2);
        bad("drop to 10.9.8.7-10.9.9.9/8;", 25, 2);
        bad("drop to 10.9.8.7/8/8;", 18, 2);
        bad("drop to 10.9.8.7/255.0.0.0;", 17, 2);
        bad("drop to 10.9.8.7-8;", 17, 2);
        bad("drop to 8;", 8, 2);
        bad("drop dport 10.9.8.7;", 11, 2);
    }

    private static void withoutPart() {
        terms("Without a PART it is all.");
        GateHouse gate = Checks.gateWith("reject;");
        int[] due = {2, 15, 0, 3, 0, 255, 0, -1, 0, -1, 0, 65535, 0, 65535, 0};
        for (int what = 0; what < 15; what++) {
            CHECKS.same("rule " + what, gate.rule(0, 0, what), due[what]);
        }
        CHECKS.same("the first point", gate.match(0, 0, 0, 0, 0, 0, 0, 0), 0);
        CHECKS.same("the last point", gate.match(0, 3, 255, -1, -1, 65535, 65535, 3), 0);
        CHECKS.same("in between", gate.match(0, 3, 255, MOST, LEAST, 65535, 65535, 3), 0);
        // Nor is anything left of what stood in its place before.
        String narrow = "accept in 1 proto 2 from 0.0.0.3 to 0.0.0.4 sport 5 dport 6 state new;";
        for (int k = 0; k < 4; k++) {
            Checks.load(gate, 0, narrow.repeat(2));
            Checks.load(gate, 1, narrow.repeat(2));
            Checks.load(gate, 0, "reject;reject;");
            for (int what = 0; what < 15; what++) {
                CHECKS.same("rule 0, " + what, gate.rule(0, 0, what), due[what]);
                CHECKS.same("rule 1, " + what, gate.rule(0, 1, what), due[what]);
            }
        }
        // A part of the rule ahead is not taken along.
        Checks.load(gate, 0, "drop in 1 state new; drop;");
        CHECKS.same("in of the second", gate.rule(0, 1, 3), 3);
        CHECKS.same("states of the second", gate.rule(0, 1, 1), 15);
    }

    private static void blanks() {
        terms("TOKENS, between them blanks (10, 32)");
        good("\n drop\n\n in  1\n;\n ", "drop in 1;\n");
        good("drop;accept;", "drop;\naccept;\n");
        for (int other : new int[] {0, 9, 11, 12, 13, 31, 33, 127, 160, 255}) {
            bad("drop" + (char) other + ";", 4, 1);
            bad((char) other + "drop;", 0, 1);
            bad("drop;" + (char) other, 5, 1);
        }
        // A blank ends a token.
        bad("dr op;", 0, 2);
        bad("drop sport 1 2;", 13, 2);
        bad("drop from 1.2.3 .4;", 10, 1);
        bad("drop from 1 .2.3.4;", 10, 2);
    }

    private static void words() {
        terms("WORDS: small letters, 11 at most");
        good("drop state established;", "drop state established;\n");
        bad("drop abcdefghijk;", 5, 2);
        bad("drop abcdefghijkl;", 5, 1);
        bad("drop state establishedx;", 11, 1);
        bad("abcdefghijkl", 0, 1);
        bad("a", 0, 2);
        bad("z;", 0, 2);
        bad("dro;", 0, 2);
        bad("dropp;", 0, 2);
        bad("drops in 1;", 0, 2);
        bad("drop inn 1;", 5, 2);
        bad("drop i 1;", 5, 2);
        bad("Drop;", 0, 1);
        bad("droP;", 0, 2);
        bad("`", 0, 1);
        bad("{", 0, 1);
    }

    private static void numbers() {
        terms("NUMBERS: digits, 5 at most");
        good("drop sport 00007;", "drop sport 7;\n");
        good("drop sport 00000-65535 dport 09;", "drop dport 9;\n");
        bad("drop sport 000007;", 11, 1);
        bad("drop sport 0-000007;", 13, 1);
        bad("drop from 1.2.3.4/000008;", 18, 1);
        bad("drop sport 99999;", 11, 3);
        bad("drop sport 100000;", 11, 1);
        bad("12345;", 0, 2);
        bad("123456;", 0, 1);
    }

    private static void addresses() {
        terms("ADDRESSES: four of one to three digits, 0 to 255, with . between");
        good("drop from 0.0.0.0-255.255.255.254;", "drop from 0.0.0.0-255.255.255.254;\n");
        good("drop from 000.001.010.255;", "drop from 0.1.10.255;\n");
        String[] none = {"1.2.3", "1.2.3.4.5", "1.2.3.", "1..3.4", "1.2..4", "1.2.3.256", "256.2.3.4", "1.999.3.4",
            "1.2.300.4", "1.2.3.0001", "0001.2.3.4", "1.0000.3.4", "1.", "1.2", "1.2.3.4.", "1...", "123456.1.1.1"};
        for (String text : none) {
            bad("drop from " + text + ";", 10, 1);
            bad("drop to 0.0.0.0-" + text + ";", 16, 1);
        }
    }

    private static void runs() {
        terms("WORDS and NUMBERS go on as long as small letters and digits do");
        bad("drop in1;", 5, 1);
        bad("drop in 1x;", 8, 1);
        bad("drop in 1proto 2;", 8, 1);
        bad("drop1 in 1;", 0, 1);
        bad("1drop;", 0, 1);
        bad("drop proto 6tcp;", 11, 1);
        bad("drop proto tcp6;", 11, 1);
        bad("drop state new1,related;", 11, 1);
        // Signs need no blanks around them.
        good("drop in 1-2 state new,related;drop;", "drop in 1-2 state new,related;\ndrop;\n");
    }

    private static void addressRuns() {
        terms("digits with a . right behind them begin an ADDRESS, that goes on as long as digits, letters and . do:"
                + " where it is not as told then, it is no TOKEN.");
        bad("drop from 1.2.3.4x;", 10, 1);
        bad("drop from 1.2.3.4to 1.2.3.4;", 10, 1);
        bad("drop from 1.2.3.x;", 10, 1);
        bad("drop from 1.a.3.4;", 10, 1);
        bad("drop from 1.2.3.4.;", 10, 1);
        bad("drop in 1.;", 8, 1);
        bad("drop in 1.2.3.4;", 8, 2);
        bad("drop from 1.2.3.4/8.;", 18, 1);
        bad("1.2.3.4;", 0, 2);
        bad("1.2.3;", 0, 1);
        // Without digits right ahead of it a . begins nothing.
        bad("drop from .1.2.3;", 10, 1);
        bad("drop.", 4, 1);
        bad("drop in 1 .", 10, 1);
        // Signs and blanks end it.
        good("drop from 1.2.3.4-1.2.3.5 to 1.2.3.4/31;", "drop from 1.2.3.4-1.2.3.5 to 1.2.3.4-1.2.3.5;\n");
        good("drop to 1.2.3.4\n;", "drop to 1.2.3.4;\n");
    }

    private static void firstAlongTheText() {
        terms("FAULTS, the first along the TEXT");
        bad("drop in 9 ?;", 8, 3);
        bad("drop in 1 in 9 ?;", 10, 4);
        bad("foo ? drop in 9;", 0, 2);
        bad("? foo", 0, 1);
        bad("drop in 1 in 1; drop in 9;", 10, 4);
        bad("drop in 9; drop in 1 in 1;", 8, 3);
        bad("drop in 2-1-?", 10, 3);
        bad("drop;".repeat(16) + "drop in 9;", 80, 4);
    }

    private static void leastOfOneToken() {
        terms("FAULTS, .. of one TOKEN the least");
        // No token, and it could not come: 1. A word that is told twice where none can come: 2.
        bad("drop in ?", 8, 1);
        bad("drop in 1 - in 2;", 12, 2);
        bad("drop in in 2;", 8, 2);
        bad("drop in 1 state state new;", 16, 2);
        // A number that is too high and could not come: 2; too high and below the first one is 3 once.
        bad("drop 99999;", 5, 2);
        bad("drop from 99999;", 10, 2);
        bad("drop in 3-2;", 10, 3);
        // A 17th that is no action: 1 and 2 ahead of 4.
        bad("drop;".repeat(16) + "drop5;", 80, 1);
        bad("drop;".repeat(16) + "in 1;", 80, 2);
    }

    private static void noToken() {
        terms("1 no TOKEN");
        StringBuilder fine = new StringBuilder(" \n;,-/");
        for (char sign = '0'; sign <= '9'; sign++) {
            fine.append(sign);
        }
        for (char sign = 'a'; sign <= 'z'; sign++) {
            fine.append(sign);
        }
        for (int sign = 0; sign < 256; sign++) {
            GateHouse gate = new GateHouse();
            int got = Checks.load(gate, 0, "drop in " + (char) sign);
            boolean blank = sign == 10 || sign == 32;
            boolean token = fine.indexOf("" + (char) sign) >= 0;
            boolean digit = sign >= '0' && sign <= '3';
            CHECKS.same("place with byte " + sign, got, blank || digit ? -10 : -9);
            int due = !token ? 1 : sign >= '4' && sign <= '9' ? 3 : 2;
            CHECKS.same("kind of byte " + sign, gate.fault(), due);
        }
    }

    private static void theEnd() {
        terms("2 one that can't come (the end: how many bytes there are)");
        String[] texts = {"policy", "policy drop", "drop", "drop in", "drop in 1", "drop in 1-", "drop in 1-2",
            "drop proto", "drop proto tcp", "drop from", "drop from 1.2.3.4", "drop from 1.2.3.4-", "drop from 1.2.3.4/",
            "drop from 1.2.3.4/8", "drop to", "drop sport", "drop dport", "drop state", "drop state new",
            "drop state new,", "drop; accept"};
        for (String text : texts) {
            bad(text, text.length(), 2);
            bad(text + " \n ", text.length() + 3, 2);
        }
        bad("drop" + BLANKS.substring(0, 1996), 2000, 2);
        good("drop;", "drop;\n");
    }

    private static void cantCome() {
        terms("2 one that can't come");
        String[] others = {"policy", "drop", "in", "tcp", "new", "foo", "7", "1.2.3.4", ";", ",", "-", "/"};
        // By turns what may come at each place (by its index in the row above), all else can't.
        Object[][] places = {{"", "0 1"}, {"policy ", "1"}, {"policy drop ", "8"}, {"drop; ", "1"}, {"drop ", "2 8"},
            {"drop dport ", "6"}, {"drop dport 5 ", "2 8 10"}, {"drop dport 5 - ", "6"}, {"drop dport 5-6 ", "2 8"},
            {"drop proto ", "3 6"}, {"drop proto tcp ", "2 8"}, {"drop proto 5 ", "2 8 10"}, {"drop from ", "7"},
            {"drop from 1.1.1.1 ", "2 8 10 11"}, {"drop from 1.1.1.1 - ", "7"}, {"drop from 1.1.1.1 / ", "6"},
            {"drop to 1.1.1.1/7 ", "2 8"}, {"drop to 1.1.1.1-1.1.1.2 ", "2 8"}, {"drop state ", "4"},
            {"drop state new ", "2 8 9"}, {"drop state new, ", "4"}};
        for (Object[] place : places) {
            String ahead = (String) place[0];
            String may = " " + place[1] + " ";
            for (int k = 0; k < others.length; k++) {
                GateHouse gate = new GateHouse();
                int got = Checks.load(gate, 0, ahead + others[k]);
                boolean fine = got >= 0 || got == -1 - ahead.length() - others[k].length();
                CHECKS.same("<" + ahead + others[k] + "> can come", fine, may.contains(" " + k + " "));
                if (!fine) {
                    CHECKS.same("place of <" + ahead + others[k] + ">", got, -1 - ahead.length());
                    CHECKS.same("kind of <" + ahead + others[k] + ">", gate.fault(), 2);
                }
            }
        }
    }

    private static void numbersThatMayNotStand() {
        terms("3 a NUMBER that may not stand there (IN to 3, PROTO to 255, ports to 65535, n to 32)");
        String[] words = {"in", "proto", "sport", "dport"};
        int[] tops = {3, 255, 65535, 65535};
        for (int k = 0; k < 4; k++) {
            String ahead = "drop " + words[k] + " ";
            good(ahead + tops[k] + ";", ahead + tops[k] + ";\n");
            good(ahead + "1-" + tops[k] + ";", ahead + "1-" + tops[k] + ";\n");
            bad(ahead + (tops[k] + 1) + ";", ahead.length(), 3);
            bad(ahead + "0-" + (tops[k] + 1) + ";", ahead.length() + 2, 3);
            bad(ahead + "99999;", ahead.length(), 3);
        }
        for (String word : new String[] {"from", "to"}) {
            String ahead = "drop " + word + " 1.2.3.4/";
            good(ahead + "32;", "drop " + word + " 1.2.3.4;\n");
            good(ahead + "0;", "drop;\n");
            bad(ahead + "33;", ahead.length(), 3);
            bad(ahead + "99999;", ahead.length(), 3);
        }
    }

    private static void secondBelowFirst() {
        terms("3 .. a second one of a RANGE, a second ADDRESS that is below the first");
        bad("drop in 1-0;", 10, 3);
        bad("drop proto 255-254;", 15, 3);
        bad("drop sport 1-0;", 13, 3);
        bad("drop dport 65535-65534;", 17, 3);
        bad("drop dport 100-00099;", 15, 3);
        good("drop in 1-1;", "drop in 1;\n");
        for (String word : new String[] {"from", "to"}) {
            String ahead = "drop " + word + " ";
            bad(ahead + "0.0.0.1-0.0.0.0;", ahead.length() + 8, 3);
            bad(ahead + "128.0.0.0-127.255.255.255;", ahead.length() + 10, 3);
            bad(ahead + "255.255.255.255-0.0.0.0;", ahead.length() + 16, 3);
            good(ahead + "127.255.255.255-128.0.0.0;", ahead + "127.255.255.255-128.0.0.0;\n");
            good(ahead + "255.255.255.255-255.255.255.255;", ahead + "255.255.255.255;\n");
        }
    }

    private static void partTwice() {
        terms("4 .. a PART told twice at its word");
        bad("drop in 1 proto 2 in 1;", 18, 4);
        bad("drop in 1 in ?", 10, 4);
        bad("drop in 1 in", 10, 4);
        bad("drop state new,new state new;", 19, 4);
        bad("drop from 1.1.1.1/8 from 1.1.1.1;", 20, 4);
        good("drop from 1.1.1.1 to 1.1.1.1 sport 1 dport 1;", "drop from 1.1.1.1 to 1.1.1.1 sport 1 dport 1;\n");
    }

    private static void byte2000() {
        terms("4 .. byte 2000 of a longer TEXT, where nothing ahead of it is wrong");
        bad(BLANKS.substring(0, 2000) + "drop;", 2000, 4);
        bad(BLANKS.substring(0, 2000) + "?", 2000, 4);
        bad(BLANKS.substring(0, 2050) + "?", 2000, 4);
        bad("drop" + BLANKS.substring(0, 1997), 2000, 4);
        bad(BLANKS.substring(0, 1996) + "drop;", 2000, 4);
        bad(BLANKS.substring(0, 1998) + "drop;", 2000, 4);
        bad("drop;".repeat(16) + BLANKS.substring(0, 1920) + "drop;", 2000, 4);
        // A token that begins ahead of it is right or wrong as a whole.
        String far = "drop from" + BLANKS.substring(0, 1989);
        bad(far + "1.2.3.4;", 2000, 4);
        bad(far + "1.2.3.x;", 1998, 1);
        bad(far + "1.2.3.4-0.0.0.0;", 2000, 4);
        bad(far + "drop;", 1998, 2);
        bad(BLANKS.substring(0, 1999) + "1".repeat(101), 1999, 1);
        bad(BLANKS.substring(0, 1999) + "a".repeat(101), 1999, 1);
        bad(BLANKS.substring(0, 1999) + "1" + ".1".repeat(50), 1999, 1);
        bad(BLANKS.substring(0, 2000) + "1".repeat(100), 2000, 4);
        // What is wrong ahead of it comes first.
        bad("?" + BLANKS.substring(0, 2000), 0, 1);
        bad(BLANKS.substring(0, 1999) + "?;", 1999, 1);
        bad(BLANKS.substring(0, 1999) + ";;", 1999, 2);
        bad("drop in 9" + BLANKS.substring(0, 1992), 8, 3);
        bad("drop in 1 in 1" + BLANKS.substring(0, 1990), 10, 4);
        bad("drop;".repeat(17) + BLANKS.substring(0, 1990), 80, 4);
    }

    private static void writtenPolicy() {
        terms("WRITTEN a LIST is: policy, a blank, its ACTION ; and a 10");
        GateHouse gate = new GateHouse();
        for (String action : new String[] {"drop", "accept", "reject"}) {
            Checks.load(gate, 2, "policy " + action + ";");
            CHECKS.same("without rules", Checks.written(gate, 2), "policy " + action + ";\n");
            Checks.load(gate, 2, "policy " + action + ";" + action + ";");
            CHECKS.same("with one", Checks.written(gate, 2), "policy " + action + ";\n" + action + ";\n");
        }
    }

    private static void writtenParts() {
        terms("for each PART of which it does not match all, in the order above, a blank, its word, a blank");
        good("drop in 0-3 proto 0-255 from 0.0.0.0/0 to 0.0.0.0-255.255.255.255 sport 0-65535 dport 0-65535"
                + " state new,established,related,invalid;", "drop;\n");
        // One less at either end is not all.
        good("drop in 1-3;drop in 0-2;", "drop in 1-3;\ndrop in 0-2;\n");
        good("drop proto 1-255;drop proto 0-254;", "drop proto 1-255;\ndrop proto 0-254;\n");
        good("drop sport 1-65535;drop sport 0-65534;", "drop sport 1-65535;\ndrop sport 0-65534;\n");
        good("drop dport 1-65535;drop dport 0-65534;", "drop dport 1-65535;\ndrop dport 0-65534;\n");
        for (String word : new String[] {"from", "to"}) {
            good("drop " + word + " 0.0.0.1-255.255.255.255;drop " + word + " 0.0.0.0-255.255.255.254;",
                    "drop " + word + " 0.0.0.1-255.255.255.255;\ndrop " + word + " 0.0.0.0-255.255.255.254;\n");
        }
    }

    private static void writtenRanges() {
        terms("a RANGE as one NUMBER, or two with - between, ADDRESSES likewise");
        good("drop sport 7-7 dport 7-8;", "drop sport 7 dport 7-8;\n");
        good("drop sport 0-9 dport 10-99;", "drop sport 0-9 dport 10-99;\n");
        good("drop sport 100-999 dport 1000-9999;", "drop sport 100-999 dport 1000-9999;\n");
        good("drop sport 10000-65535 dport 0;", "drop sport 10000-65535 dport 0;\n");
        good("drop sport 10101 dport 20002-30000;", "drop sport 10101 dport 20002-30000;\n");
        good("drop from 1.2.3.4-1.2.3.4 to 1.2.3.4/30;", "drop from 1.2.3.4 to 1.2.3.4-1.2.3.7;\n");
        good("drop from 255.0.10.100 to 0.0.0.0;", "drop from 255.0.10.100 to 0.0.0.0;\n");
    }

    private static void writtenStates() {
        terms("STATES in their order with , between");
        good("drop state invalid,related,established;", "drop state established,related,invalid;\n");
        good("drop state invalid,new;", "drop state new,invalid;\n");
        good("drop state related,established;", "drop state established,related;\n");
        good("drop state invalid;", "drop state invalid;\n");
    }

    private static void loadAnswers() {
        CHECKS.sentence("Promise 4", "The tape (empty then) is the TEXT of a LIST: how many RULES it has now");
        GateHouse gate = new GateHouse();
        for (int n = 0; n <= 16; n++) {
            CHECKS.same("load of " + n, Checks.load(gate, 0, "accept;".repeat(n)), n);
            CHECKS.same("tape behind it", gate.count(0), 0);
            CHECKS.same("rules then", gate.rules(0), n);
        }
        CHECKS.same("an empty tape empties the list", gate.load(0), 0);
        CHECKS.same("rules then", gate.rules(0), 0);
        CHECKS.same("one list alone", Checks.load(gate, 3, "drop;"), 1);
        for (int list = 0; list < 3; list++) {
            CHECKS.same("list " + list, gate.rules(list), 0);
        }
    }

    private static void loadFault() {
        CHECKS.sentence("Promise 4", "-1 - the place of a FAULT: it stays.");
        GateHouse gate = Checks.gateWith("policy accept; reject in 1; drop;");
        gate.packet(1, 50, 1, 2, 3, 4, 0);
        String[] texts = {"?", "policy reject; accept; foo", "drop;".repeat(17), "drop in 2-1;", "drop"};
        int[] places = {0, 23, 80, 10, 4};
        for (int k = 0; k < texts.length; k++) {
            CHECKS.same("load of " + texts[k], Checks.load(gate, 0, texts[k]), -1 - places[k]);
            CHECKS.same("the list behind it", Checks.written(gate, 0), "policy accept;\nreject in 1;\ndrop;\n");
            CHECKS.same("what it was told", gate.rule(0, 0, 14), 1);
            CHECKS.same("the tape is empty then too", gate.count(0), 0);
        }
    }

    private static void loadNoList() {
        CHECKS.sentence("Promise 4", "IndexOutOfBoundsException: there is no such LIST (here and below).");
        Class<IndexOutOfBoundsException> noList = IndexOutOfBoundsException.class;
        GateHouse gate = new GateHouse();
        Checks.feed(gate, Checks.octets("drop;"));
        for (int list : new int[] {-1, 4, 5, MOST, LEAST}) {
            CHECKS.refused("load " + list, noList, () -> gate.load(list));
            CHECKS.refused("rules " + list, noList, () -> gate.rules(list));
            CHECKS.refused("rule " + list, noList, () -> gate.rule(list, NONE, 0));
            CHECKS.refused("rule of nothing " + list, noList, () -> gate.rule(list, 99, 99));
            CHECKS.refused("write " + list, noList, () -> gate.write(list));
            CHECKS.refused("match " + list, noList, () -> gate.match(list, 0, 0, 0, 0, 0, 0, 0));
            CHECKS.refused("shadowed " + list, noList, () -> gate.shadowed(list, 0) ? 1 : 0);
            CHECKS.refused("alike " + list, noList, () -> gate.alike(list, 0) ? 1 : 0);
            CHECKS.refused("alike to " + list, noList, () -> gate.alike(0, list) ? 1 : 0);
            CHECKS.refused("alike to itself " + list, noList, () -> gate.alike(list, list) ? 1 : 0);
            CHECKS.refused("least " + list, noList, () -> gate.least(list, 0));
            CHECKS.refused("least to " + list, noList, () -> gate.least(0, list));
        }
        CHECKS.same("the tape stays", gate.load(3), 1);
    }

    private static void faultOfLatest() {
        CHECKS.sentence("Promise 5", "The kind of the FAULT of the latest load() or datagram() that did not throw;"
                + " 0 without one and ahead of any.");
        GateHouse gate = new GateHouse();
        CHECKS.same("ahead of any", gate.fault(), 0);
        String[] texts = {"?", "foo", "drop in 9;", "drop in 1 in 1;", "drop;"};
        int[] due = {1, 2, 3, 4, 0};
        for (int k = 0; k < 5; k++) {
            Checks.load(gate, 1, texts[k]);
            CHECKS.same("of " + texts[k], gate.fault(), due[k]);
            CHECKS.same("asked again", gate.fault(), due[k]);
            CHECKS.refused("a load that throws", IndexOutOfBoundsException.class, () -> gate.load(4));
            CHECKS.refused("a datagram that throws", IllegalArgumentException.class, () -> gate.datagram(4));
            CHECKS.same("of " + texts[k] + " still", gate.fault(), due[k]);
        }
        send(gate, 0, headerSummed(with(datagram(0, 17, 1, 2, udp(3, 4, 5)), 7, 1)));
        CHECKS.same("of a datagram", gate.fault(), 5);
        gate.packet(0, 17, 1, 2, 3, 4, 0);
        gate.write(0);
        CHECKS.same("other calls leave it", gate.fault(), 5);
        send(gate, 0, datagram(0, 17, 1, 2, udp(3, 4, 5)));
        CHECKS.same("of one without", gate.fault(), 0);
    }

    private static void rulesOfList() {
        CHECKS.sentence("Promise 6", "How many RULES a LIST has.");
        GateHouse gate = new GateHouse();
        for (int list = 0; list < 4; list++) {
            CHECKS.same("none", gate.rules(list), 0);
            Checks.load(gate, list, "drop;".repeat(13 + list));
        }
        for (int list = 0; list < 4; list++) {
            CHECKS.same("list " + list, gate.rules(list), 13 + list);
        }
    }

    private static void ruleParts() {
        CHECKS.sentence("Promise 7", "Of RULE i of a LIST: 0 its ACTION, 1 the STATES (1, 2, 4, 8 together),"
                + " 2, 3 from and up to what of IN, 4, 5 of PROTO, 6, 7 SRC, 8, 9 DST, 10, 11 SPORT, 12, 13 DPORT");
        GateHouse gate = new GateHouse();
        Checks.load(gate, 3, "drop; reject in 1-2 proto 3-254 from 127.255.255.255-128.0.0.0 to 255.255.255.254-255.255.255.255"
                + " sport 1-65534 dport 0-1 state invalid,new; accept in 3 state established;");
        int[] due = {2, 9, 1, 2, 3, 254, MOST, LEAST, -2, -1, 1, 65534, 0, 1, 0};
        for (int what = 0; what < 15; what++) {
            CHECKS.same("part " + what, gate.rule(3, 1, what), due[what]);
        }
        CHECKS.same("the last one's action", gate.rule(3, 2, 0), 1);
        CHECKS.same("the last one's states", gate.rule(3, 2, 1), 2);
        CHECKS.same("the last one's in, from", gate.rule(3, 2, 2), 3);
    }

    private static void ruleTold() {
        CHECKS.sentence("Promise 7", "14 how many packets were told its ACTION by packet() or datagram()"
                + " since load() or least() (LIST 0)");
        String text = "policy accept; drop in 1; reject in 2; drop in 3 state invalid;";
        GateHouse gate = Checks.gateWith(text);
        Checks.load(gate, 1, text);
        gate.packet(1, 50, 1, 2, 3, 4, 0);
        gate.packet(1, 50, 1, 2, 3, 4, 0);
        send(gate, 2, datagram(0, 50, 1, 2, new byte[0]));
        gate.packet(3, 6, 1, 2, 3, 4, 0);
        gate.packet(3, 50, 1, 2, 3, 4, 0);
        told(gate, 0, 2, 1, 1, 1);
        told(gate, 1, 0, 0, 0, 0);
        gate.match(0, 1, 50, 1, 2, 3, 4, 0);
        send(gate, 1, new byte[20]);
        gate.write(0);
        gate.alike(0, 1);
        gate.shadowed(0, 0);
        told(gate, 0, 2, 1, 1, 1);
        gate.least(0, 2);
        told(gate, 0, 2, 1, 1, 1);
        told(gate, 2, 0, 0, 0, 0);
        Checks.load(gate, 1, text);
        told(gate, 0, 2, 1, 1, 1);
        gate.least(0, 0);
        told(gate, 0, 0, 0, 0, 0);
        gate.packet(1, 50, 1, 2, 3, 4, 0);
        told(gate, 0, 1, 0, 0, 0);
        gate.least(1, 0);
        told(gate, 0, 0, 0, 0, 0);
        gate.packet(2, 50, 1, 2, 3, 4, 0);
        gate.packet(0, 50, 1, 2, 3, 4, 0);
        told(gate, 0, 0, 1, 0, 1);
        Checks.load(gate, 0, text);
        told(gate, 0, 0, 0, 0, 0);
    }

    /** What the three rules of a list and its policy were told. */
    private static void told(GateHouse gate, int list, int... due) {
        for (int k = 0; k < 4; k++) {
            CHECKS.same("told " + k, gate.rule(list, k == 3 ? NONE : k, 14), due[k]);
        }
    }

    private static void rulePolicy() {
        CHECKS.sentence("Promise 7", "For i NONE: the POLICY (what 0), and how many it was told (14).");
        GateHouse gate = Checks.gateWith("policy reject;");
        CHECKS.same("policy", gate.rule(0, NONE, 0), 2);
        CHECKS.same("told", gate.rule(0, NONE, 14), 0);
        gate.packet(0, 50, 1, 2, 3, 4, 0);
        CHECKS.same("told then", gate.rule(0, NONE, 14), 1);
        for (int what : new int[] {-1, 1, 2, 3, 4, 5, 6, 7, 8, 9, 10, 11, 12, 13, 15, MOST, LEAST}) {
            CHECKS.refused("what " + what, NoSuchElementException.class, () -> gate.rule(0, NONE, what));
        }
    }

    private static void ruleRefused() {
        CHECKS.sentence("Promise 7", "NoSuchElementException: there is no such RULE, or another what.");
        Class<NoSuchElementException> none = NoSuchElementException.class;
        GateHouse gate = Checks.gateWith("drop; drop;");
        CHECKS.same("the last one", gate.rule(0, 1, 1), 15);
        for (int i : new int[] {-2, 2, 15, 16, MOST, LEAST}) {
            CHECKS.refused("rule " + i, none, () -> gate.rule(0, i, 0));
            CHECKS.refused("rule told " + i, none, () -> gate.rule(0, i, 14));
        }
        for (int what : new int[] {-1, 15, 16, MOST, LEAST}) {
            CHECKS.refused("what " + what, none, () -> gate.rule(0, 0, what));
        }
        CHECKS.refused("of an empty list", none, () -> gate.rule(1, 0, 0));
        Checks.load(gate, 0, "drop;");
        CHECKS.refused("one that has gone", none, () -> gate.rule(0, 1, 0));
    }

    private static void writeLength() {
        CHECKS.sentence("Promise 8", "The LIST is WRITTEN to OUT: how many bytes.");
        GateHouse gate = new GateHouse();
        CHECKS.same("an empty one", gate.write(3), 13);
        CHECKS.same("OUT", gate.count(1), 13);
        // The longest rule, and the longest list that a text of 2000 bytes can tell of such rules.
        String rule = "accept in 1-2 proto 100-101 from 100.100.100.100-200.200.200.200 to 100.100.100.100-200.200.200.200"
                + " sport 10000-20000 dport 10000-20000 state established,related,invalid;";
        CHECKS.same("eleven of the longest", Checks.load(gate, 0, "policy accept;" + rule.repeat(11)), 11);
        CHECKS.same("written", gate.write(0), 15 + 11 * (rule.length() + 1));
        String spelt = "accept proto 100-101 from 128.0.0.0-255.255.255.255 to 128.0.0.0-255.255.255.255"
                + " sport 10000-20000 dport 10000-20000 state established,invalid;\n";
        String brief = "accept proto 100-101 from 128.0.0.0/1 to 128.0.0.0/1"
                + " sport 10000-20000 dport 10000-20000 state established,invalid;";
        CHECKS.same("sixteen", Checks.load(gate, 1, brief.repeat(16)), 16);
        CHECKS.same("more than a text may have", gate.write(1), 13 + 16 * spelt.length());
        CHECKS.same("its last byte", gate.octet(gate.count(1) - 1), 10);
        CHECKS.same("all of it", Checks.writtenByMany(brief.repeat(16)), "policy drop;\n" + spelt.repeat(16));
        CHECKS.same("a shorter one takes its place", gate.write(3), 13);
        CHECKS.same("OUT", gate.count(1), 13);
    }
}
