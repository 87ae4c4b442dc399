import java.util.NoSuchElementException;

/**
 * Sentences of the document's third part (points and what lists do) and of promises 10 to 14 that name a boundary
 * case: each has a method of its own, which names it first.
 */
public final class PointSentencesTest {
    private static final Checks CHECKS = new Checks();
    private static final int NONE = GateHouse.NONE;
    private static final int LEAST = Integer.MIN_VALUE;
    private static final int MOST = Integer.MAX_VALUE;
    private static final String[] ALL_BUT_FIRST = {"in 1-3", "proto 1-255", "from 0.0.0.1-255.255.255.255",
        "to 0.0.0.1-255.255.255.255", "sport 1-65535", "dport 1-65535", "state established,related,invalid"};
    private static final String[] ALL_BUT_LAST = {"in 0-2", "proto 0-254", "from 0.0.0.0-255.255.255.254",
        "to 0.0.0.0-255.255.255.254", "sport 0-65534", "dport 0-65534", "state new,established,related"};
    private static final String[] FIRST = {"in 0", "proto 0", "from 0.0.0.0", "to 0.0.0.0", "sport 0", "dport 0", "state new"};
    private static final String[] LAST = {"in 3", "proto 255", "from 255.255.255.255", "to 255.255.255.255", "sport 65535",
        "dport 65535", "state invalid"};
    private static final String[] TOPS = {"3", "255", "4294967295", "4294967295", "65535", "65535", "3"};
    private static final String FIRST_POINT = "0 0 0 0 0 0 0";
    private static final String LAST_POINT = "3 255 4294967295 4294967295 65535 65535 3";

    public static void main(String[] args) {
        allPackets();
        orderOfPoints();
        orderWithin();
        addressesInOrder();
        reached();
        shadowedByNone();
        alikeAtEach();
        alikeBut();
        alikeButForOnePart();
        alikeWhateverWasAsked();
        leastFromTheLast();
        leastWithoutThoseTaken();
        matchAnswers();
        matchRefused();
        shadowedAnswers();
        shadowedFinds();
        shadowedRefused();
        alikeAnswers();
        alikeFinds();
        foundParts();
        foundRefused();
        leastAnswers();
        leastTakesOver();
        CHECKS.end();
    }

    private static void terms(String words) {
        CHECKS.sentence("Terms, 3", words);
    }

    private static void terms(String words, String aspect) {
        CHECKS.sentence("Terms, 3", words, aspect);
    }

    private static GateHouse gateWith(String... texts) {
        GateHouse gate = new GateHouse();
        for (int list = 0; list < texts.length; list++) {
            int got = Checks.load(gate, list, texts[list]);
            CHECKS.same("load of " + texts[list], got >= 0, true);
        }
        return gate;
    }

    private static String all(String action, String... parts) {
        return action + " " + String.join(" ", parts) + ";";
    }

    /** A rule of its own for each part. */
    private static String each(String action, String... parts) {
        StringBuilder text = new StringBuilder();
        for (String part : parts) {
            text.append(action).append(' ').append(part).append(';');
        }
        return text.toString();
    }

    private static void allPackets() {
        terms("POINTS are all packets in all STATES, FLAGS aside.");
        GateHouse gate = gateWith("", all("accept", FIRST), all("accept", LAST));
        CHECKS.same("the very first one is a point", gate.alike(0, 1), false);
        CHECKS.same("it", Checks.found(gate), FIRST_POINT);
        CHECKS.same("the very last one is a point", gate.alike(0, 2), false);
        CHECKS.same("it", Checks.found(gate), LAST_POINT);
        // A state is a point's even where no packet of its fields ever comes in it.
        Checks.load(gate, 3, "accept proto 50 state related;");
        CHECKS.same("RELATED of 50", gate.shadowed(3, 0), false);
        CHECKS.same("it", Checks.found(gate), "0 50 0 0 0 0 2");
    }

    private static void orderOfPoints() {
        terms("They are ordered by IN, then PROTO, SRC, DST, SPORT, DPORT, STATE.");
        for (int a = 0; a < 7; a++) {
            for (int b = a + 1; b < 7; b++) {
                // Of these two the one that is first by a is last by b.
                String first = FIRST[a] + " " + LAST[b];
                String second = LAST[a] + " " + FIRST[b];
                GateHouse gate = gateWith("", each("accept", second, first));
                CHECKS.same("differ " + a + " " + b, gate.alike(0, 1), false);
                StringBuilder due = new StringBuilder();
                for (int c = 0; c < 7; c++) {
                    due.append(c == 0 ? "" : " ").append(c == b ? TOPS[c] : "0");
                }
                CHECKS.same("the first by " + a, Checks.found(gate), due.toString());
                Checks.load(gate, 2, all("drop", second) + all("accept", first) + "reject;");
                CHECKS.same("reached", gate.shadowed(2, 0), false);
                StringBuilder other = new StringBuilder();
                for (int c = 0; c < 7; c++) {
                    other.append(c == 0 ? "" : " ").append(c == a ? TOPS[c] : "0");
                }
                CHECKS.same("the second by " + a, Checks.found(gate), other.toString());
            }
        }
    }

    private static void orderWithin() {
        terms("They are ordered by IN", "by its numbers, not by the rules");
        GateHouse gate = gateWith("accept dport 500; accept dport 60; accept dport 7;", "", "accept in 2; accept in 1;");
        CHECKS.same("differ", gate.alike(0, 1), false);
        CHECKS.same("the least dport", Checks.found(gate), "0 0 0 0 0 7 0");
        CHECKS.same("differ", gate.alike(2, 1), false);
        CHECKS.same("the least in", Checks.found(gate), "1 0 0 0 0 0 0");
    }

    private static void addressesInOrder() {
        terms("SRC and DST (ADDRESSES, 0 to 2^32 - 1; as ints their 32 bits)");
        String[] words = {"from", "to"};
        for (int k = 0; k < 2; k++) {
            String w = " " + words[k] + " ";
            GateHouse gate = gateWith("accept" + w + "255.255.255.255; accept" + w + "128.0.0.0; accept" + w + "127.255.255.255;", "",
                    "accept" + w + "0.0.0.0-127.255.255.255;", "accept" + w + "0.0.0.0-255.255.255.254;");
            CHECKS.same("differ", gate.alike(0, 1), false);
            CHECKS.same("below the sign", gate.found(2 + k), MOST);
            Checks.load(gate, 0, "policy accept;");
            CHECKS.same("differ", gate.alike(0, 2), false);
            CHECKS.same("above the sign", gate.found(2 + k), LEAST);
            CHECKS.same("differ", gate.alike(0, 3), false);
            CHECKS.same("the last one", gate.found(2 + k), -1);
            Checks.load(gate, 0, "drop" + w + "0.0.0.0-127.255.255.255; drop" + w + "128.0.0.0/1; accept;");
            CHECKS.same("both halves are all", gate.shadowed(0, 2), true);
            CHECKS.same("matched low", k == 0 ? gate.match(0, 0, 0, MOST, 0, 0, 0, 0) : gate.match(0, 0, 0, 0, MOST, 0, 0, 0), 0);
            CHECKS.same("matched high", k == 0 ? gate.match(0, 0, 0, LEAST, 0, 0, 0, 0) : gate.match(0, 0, 0, 0, LEAST, 0, 0, 0), 1);
        }
    }

    private static void reached() {
        terms("A RULE is REACHED by a POINT that it MATCHES and none ahead of it.");
        // Those ahead leave the very first, or the very last point alone.
        GateHouse gate = gateWith(each("drop", ALL_BUT_FIRST) + "accept;", each("drop", ALL_BUT_LAST) + "accept;");
        CHECKS.same("the first point is left", gate.shadowed(0, 7), false);
        CHECKS.same("it", Checks.found(gate), FIRST_POINT);
        CHECKS.same("the last point is left", gate.shadowed(1, 7), false);
        CHECKS.same("it", Checks.found(gate), LAST_POINT);
        // One behind, though it matches more, takes nothing away.
        CHECKS.same("the first rule", gate.shadowed(0, 0), false);
        CHECKS.same("its point", Checks.found(gate), "1 0 0 0 0 0 0");
        // It is reached, though it tells what those ahead or the policy tell.
        Checks.load(gate, 2, "drop in 1; drop in 1-2; drop in 0-3;");
        for (int i = 0; i < 3; i++) {
            CHECKS.same("rule " + i, gate.shadowed(2, i), false);
        }
    }

    private static void shadowedByNone() {
        terms("It is SHADOWED, if by none.");
        GateHouse gate = gateWith(each("drop", ALL_BUT_FIRST) + all("reject", FIRST) + "accept;",
                each("drop", ALL_BUT_LAST) + all("reject", LAST) + "accept;");
        CHECKS.same("nothing is left", gate.shadowed(0, 8), true);
        CHECKS.same("nothing is left", gate.shadowed(1, 8), true);
        for (int c = 0; c < 7; c++) {
            // Two that meet without a gap leave nothing, in each coordinate.
            Checks.load(gate, 2, all("drop", FIRST[c]) + all("accept", ALL_BUT_FIRST[c]) + "reject;");
            CHECKS.same("behind both " + c, gate.shadowed(2, 2), true);
            Checks.load(gate, 2, all("drop", LAST[c]) + all("accept", ALL_BUT_LAST[c]) + all("reject", LAST[c]));
            CHECKS.same("behind the same " + c, gate.shadowed(2, 2), true);
            CHECKS.same("beside it " + c, gate.shadowed(2, 1), false);
        }
        Checks.load(gate, 3, "drop".concat(";drop".repeat(15)) + ";");
        CHECKS.same("the first of 16", gate.shadowed(3, 0), false);
        CHECKS.same("the last of 16", gate.shadowed(3, 15), true);
    }

    private static void alikeAtEach() {
        terms("Two LISTS are ALIKE, if of each POINT they tell the same ACTION.");
        GateHouse gate = gateWith("policy accept;", each("accept", ALL_BUT_FIRST) + all("accept", FIRST),
                each("accept", ALL_BUT_LAST) + all("accept", LAST));
        CHECKS.same("all of it by rules", gate.alike(0, 1), true);
        CHECKS.same("all of it by other rules", gate.alike(1, 2), true);
        // The action counts, not which rule tells it, nor whether a rule does.
        Checks.load(gate, 3, "policy reject; accept in 0; accept in 1; drop in 0-1; accept in 2-3;");
        CHECKS.same("by rules of which one never tells", gate.alike(0, 3), true);
        String[] policies = {"drop", "accept", "reject"};
        for (String one : policies) {
            for (String other : policies) {
                Checks.load(gate, 0, "policy " + one + ";");
                Checks.load(gate, 1, other + ";");
                CHECKS.same(one + " and " + other, gate.alike(0, 1), one.equals(other));
            }
        }
    }

    private static void alikeBut() {
        terms("Two LISTS are ALIKE, if of each POINT they tell the same ACTION.", "all but one");
        for (int c = 0; c < 7; c++) {
            GateHouse gate = gateWith("policy accept;", each("accept", ALL_BUT_FIRST[c]), each("accept", ALL_BUT_LAST[c]));
            CHECKS.same("all but the first by " + c, gate.alike(0, 1), false);
            CHECKS.same("its point", Checks.found(gate), FIRST_POINT);
            CHECKS.same("all but the last by " + c, gate.alike(2, 0), false);
            StringBuilder due = new StringBuilder();
            for (int k = 0; k < 7; k++) {
                due.append(k == 0 ? "" : " ").append(k == c ? TOPS[k] : "0");
            }
            CHECKS.same("its point", Checks.found(gate), due.toString());
        }
        GateHouse gate = gateWith("policy accept;", each("accept", ALL_BUT_LAST), each("accept", ALL_BUT_FIRST));
        CHECKS.same("but at the last point", gate.alike(0, 1), false);
        CHECKS.same("it", Checks.found(gate), LAST_POINT);
        CHECKS.same("but at the first point", gate.alike(0, 2), false);
        CHECKS.same("it", Checks.found(gate), FIRST_POINT);
    }

    private static void alikeButForOnePart() {
        terms("Two LISTS are ALIKE, if of each POINT they tell the same ACTION.",
                "one rule has another end, other states or another action");
        String[][] parts = {{"in 1-2", "in 0-2", "in 1-3", "in 1", "in 2"},
            {"proto 5-9", "proto 4-9", "proto 5-10", "proto 6-9", "proto 5-8"},
            {"from 0.0.0.5-0.0.0.9", "from 0.0.0.4-0.0.0.9", "from 0.0.0.5-0.0.0.10", "from 0.0.0.6-0.0.0.9"},
            {"to 0.0.0.5-0.0.0.9", "to 0.0.0.4-0.0.0.9", "to 0.0.0.5-0.0.0.10", "to 0.0.0.6-0.0.0.9"},
            {"sport 5-9", "sport 4-9", "sport 5-10", "sport 6-9", "sport 5-8"},
            {"dport 5-9", "dport 4-9", "dport 5-10", "dport 6-9", "dport 5-8"},
            {"state new", "state invalid", "state new,related", "state established,related,invalid"}};
        for (String[] row : parts) {
            for (String part : row) {
                GateHouse gate = gateWith(all("accept", row[0]), all("accept", part), all("reject", part));
                CHECKS.same(row[0] + " and " + part, gate.alike(0, 1), part.equals(row[0]));
                CHECKS.same(row[0] + " and " + part + " rejected", gate.alike(0, 2), false);
                CHECKS.same(part + " accepted and rejected", gate.alike(1, 2), false);
                // Behind a rule that is the same on both sides.
                Checks.load(gate, 0, "reject sport 70;" + all("accept", row[0]));
                Checks.load(gate, 1, "reject sport 70;" + all("accept", part));
                CHECKS.same(row[0] + " and " + part + " behind one", gate.alike(0, 1), part.equals(row[0]));
            }
        }
        GateHouse gate = gateWith("accept in 0; accept dport 6;", "accept in 0; accept dport 7;");
        CHECKS.same("behind what is whole", gate.alike(0, 1), false);
        CHECKS.same("its point", Checks.found(gate), "1 0 0 0 0 6 0");
        // What was gone through in vain by one IN is not so by another.
        gate = gateWith("accept proto 0 dport 5; accept in 0 proto 1 dport 5;", "accept proto 0-1 dport 5; accept in 0 proto 1 dport 5;");
        CHECKS.same("by the second IN", gate.alike(0, 1), false);
        CHECKS.same("its point", Checks.found(gate), "1 1 0 0 0 5 0");
        String[][] later = {
            {"policy drop; accept sport 1-2; reject in 2;", "policy drop; accept sport 1-2; accept proto 0-1 sport 1;", "2 0 0 0 0 0 0"},
            {"policy drop; accept dport 2; reject proto 1-2 sport 2;", "policy drop; accept dport 2; accept dport 2;", "0 1 0 0 2 0 0"},
            {"policy reject; accept dport 0-2; drop in 2 proto 1;", "policy reject; accept dport 0-2; drop dport 0-2;", "2 1 0 0 0 3 0"},
            {"policy reject; accept in 2-3 proto 0; drop sport 1-2;", "policy reject; drop sport 1-2;", "2 0 0 0 0 0 0"},
            {"policy reject; drop in 1 dport 0-1; drop dport 1;", "policy reject; drop dport 1;", "1 0 0 0 0 0 0"},
            {"policy reject; drop in 2 proto 1-2; drop sport 0-2;", "policy reject; drop sport 0-2;", "2 1 0 0 3 0 0"}};
        for (String[] row : later) {
            gate = gateWith(row[0], row[1]);
            CHECKS.same(row[0] + " and " + row[1], gate.alike(0, 1), false);
            CHECKS.same("point of " + row[0], Checks.found(gate), row[2]);
            CHECKS.same(row[1] + " and " + row[0], gate.alike(1, 0), false);
            CHECKS.same("point of " + row[1], Checks.found(gate), row[2]);
        }
    }

    private static void alikeWhateverWasAsked() {
        terms("Two LISTS are ALIKE, if of each POINT they tell the same ACTION.", "whatever was asked before");
        GateHouse gate = gateWith("accept in 1; accept in 3;", "accept in 2; accept in 3;", "reject in 1-2; drop dport 5; reject;");
        for (int k = 0; k < 3; k++) {
            CHECKS.same("least", gate.least(2, 3), 3);
            CHECKS.same("alike", gate.alike(2, 3), true);
            CHECKS.same("not alike", gate.alike(0, 1), false);
            CHECKS.same("its point", Checks.found(gate), "1 0 0 0 0 0 0");
            CHECKS.same("not shadowed", gate.shadowed(2, 2), false);
            CHECKS.same("its point", Checks.found(gate), "0 0 0 0 0 0 0");
            CHECKS.same("not alike the other way", gate.alike(1, 0), false);
            CHECKS.same("its point", Checks.found(gate), "1 0 0 0 0 0 0");
            CHECKS.same("alike", gate.alike(0, 0), true);
        }
        // Lists of the same length, asked one behind another.
        Checks.load(gate, 0, "accept dport 7;");
        Checks.load(gate, 1, "accept dport 7;");
        Checks.load(gate, 2, "accept dport 8;");
        CHECKS.same("the same", gate.alike(0, 1), true);
        CHECKS.same("not the same", gate.alike(0, 2), false);
        CHECKS.same("the same again", gate.alike(1, 0), true);
    }

    private static void least(String text, String due) {
        GateHouse gate = gateWith("policy reject;", text);
        int rules = due.split("\n", -1).length - 2;
        CHECKS.same("least of " + text, gate.least(1, 2), rules);
        CHECKS.same("what is left of " + text, Checks.written(gate, 2), due);
        CHECKS.same("it is alike: " + text, gate.alike(1, 2), true);
        CHECKS.same("nothing more goes: " + text, gate.least(2, 3), rules);
    }

    private static void leastFromTheLast() {
        terms("its RULES are gone through from the last one to the first one");
        least("accept in 1; accept in 1;", "policy drop;\naccept in 1;\n");
        least("accept in 1 proto 1; accept proto 1; accept in 1 proto 1;", "policy drop;\naccept proto 1;\n");
        // Any one of the three could go, but only the last one goes.
        least("accept in 0-1; accept in 1-2 dport 5; accept in 1-2; accept in 2 dport 5;",
                "policy drop;\naccept in 0-1;\naccept in 1-2;\n");
        least("accept in 0-1; accept in 2-3; accept in 0-2; accept in 1-3; drop;",
                "policy drop;\naccept in 0-1;\naccept in 2-3;\n");
        least("accept in 0-2; accept in 1-3; accept in 0-1; accept in 2-3;", "policy drop;\naccept in 0-2;\naccept in 1-3;\n");
    }

    private static void leastWithoutThoseTaken() {
        terms("one is taken out, if the LIST without it (and those taken out by then) is ALIKE.");
        least("", "policy drop;\n");
        least("policy accept;", "policy accept;\n");
        least("drop;", "policy drop;\n");
        least("policy accept; drop;", "policy accept;\ndrop;\n");
        least("drop;".repeat(16), "policy drop;\n");
        least("reject;".repeat(16), "policy drop;\nreject;\n");
        // The policy would do, once the last one has gone.
        least("accept in 1; drop in 1-2; accept in 2; drop;", "policy drop;\naccept in 1;\n");
        least("drop in 1; accept in 1;", "policy drop;\n");
        least("drop in 1; accept in 1-2;", "policy drop;\ndrop in 1;\naccept in 1-2;\n");
        least("policy reject; accept state new,established; accept state related,invalid; drop;",
                "policy reject;\naccept state new,established;\naccept state related,invalid;\n");
        // One that tells of a single point is needed for it.
        least(all("accept", LAST) + "drop;", "policy drop;\n" + all("accept", LAST) + "\n");
        least(all("accept", FIRST) + "drop;", "policy drop;\n" + all("accept", FIRST) + "\n");
    }

    private static void matchAnswers() {
        CHECKS.sentence("Promise 10", "Which RULE tells the ACTION of a packet in a STATE; NONE: the POLICY.");
        StringBuilder text = new StringBuilder();
        for (int k = 0; k < 16; k++) {
            text.append("drop sport ").append(k).append('-').append(2 * k).append(';');
        }
        GateHouse gate = gateWith("", text.toString());
        int[] due = {0, 1, 1, 2, 2, 3, 3};
        for (int sport = 0; sport < due.length; sport++) {
            CHECKS.same("sport " + sport, gate.match(1, 0, 0, 0, 0, sport, 0, 0), due[sport]);
        }
        CHECKS.same("the last rule alone", gate.match(1, 0, 0, 0, 0, 30, 0, 3), 15);
        CHECKS.same("behind it", gate.match(1, 0, 0, 0, 0, 31, 0, 3), NONE);
        CHECKS.same("an empty list", gate.match(0, 3, 255, -1, -1, 65535, 65535, 3), NONE);
        CHECKS.same("no packet came", gate.count(5), 0);
    }

    private static void matchRefused() {
        CHECKS.sentence("Promise 10", "IllegalArgumentException: a FIELD or the STATE is none.");
        Class<IllegalArgumentException> wrong = IllegalArgumentException.class;
        GateHouse gate = gateWith("drop;");
        for (int in : new int[] {-1, 4, MOST, LEAST}) {
            CHECKS.refused("in " + in, wrong, () -> gate.match(0, in, 0, 0, 0, 0, 0, 0));
            CHECKS.refused("state " + in, wrong, () -> gate.match(0, 0, 0, 0, 0, 0, 0, in));
        }
        for (int proto : new int[] {-1, 256, MOST, LEAST}) {
            CHECKS.refused("proto " + proto, wrong, () -> gate.match(0, 0, proto, 0, 0, 0, 0, 0));
        }
        for (int port : new int[] {-1, 65536, MOST, LEAST}) {
            CHECKS.refused("sport " + port, wrong, () -> gate.match(0, 0, 0, 0, 0, port, 0, 0));
            CHECKS.refused("dport " + port, wrong, () -> gate.match(0, 0, 0, 0, 0, 0, port, 0));
        }
        // Every int is an address.
        for (int address : new int[] {-1, 0, MOST, LEAST}) {
            CHECKS.same("address " + address, gate.match(0, 3, 255, address, address, 65535, 65535, 3), 0);
        }
    }

    private static void shadowedAnswers() {
        CHECKS.sentence("Promise 11", "Whether RULE i is SHADOWED.");
        GateHouse gate = gateWith("drop in 0-1; drop in 1-2; drop in 0-2; drop in 2-3; drop; drop;");
        boolean[] due = {false, false, true, false, true, true};
        for (int i = 0; i < 6; i++) {
            CHECKS.same("rule " + i, gate.shadowed(0, i), due[i]);
        }
    }

    private static void shadowedFinds() {
        CHECKS.sentence("Promise 11", "If not, the first POINT that reaches it is FOUND.");
        GateHouse gate = gateWith("drop in 0-1; drop in 1-2; drop in 0-2; accept in 0-3 dport 7-9;");
        CHECKS.same("the second", gate.shadowed(0, 1), false);
        CHECKS.same("its point", Checks.found(gate), "2 0 0 0 0 0 0");
        CHECKS.same("the third", gate.shadowed(0, 2), true);
        CHECKS.same("none is found for it", Checks.found(gate), "2 0 0 0 0 0 0");
        CHECKS.same("the fourth", gate.shadowed(0, 3), false);
        CHECKS.same("its point", Checks.found(gate), "3 0 0 0 0 7 0");
    }

    private static void shadowedRefused() {
        CHECKS.sentence("Promise 11", "NoSuchElementException: there is no such RULE.");
        GateHouse gate = gateWith("drop; accept;");
        for (int i : new int[] {NONE, 2, 16, MOST, LEAST}) {
            CHECKS.refused("rule " + i, NoSuchElementException.class, () -> gate.shadowed(0, i) ? 1 : 0);
        }
        CHECKS.refused("of an empty list", NoSuchElementException.class, () -> gate.shadowed(1, 0) ? 1 : 0);
        CHECKS.refused("nothing was found", NoSuchElementException.class, () -> gate.found(0));
    }

    private static void alikeAnswers() {
        CHECKS.sentence("Promise 12", "Whether two LISTS are ALIKE.");
        GateHouse gate = gateWith("drop in 1;", "", "policy accept; drop;", "policy drop; accept; reject;");
        int[][] due = {{1, 1, 1, 0}, {1, 1, 1, 0}, {1, 1, 1, 0}, {0, 0, 0, 1}};
        for (int one = 0; one < 4; one++) {
            for (int other = 0; other < 4; other++) {
                CHECKS.same(one + " and " + other, gate.alike(one, other), due[one][other] == 1);
            }
        }
        // 16 rules a side, each side cut elsewhere.
        StringBuilder odd = new StringBuilder("accept sport 0;");
        StringBuilder even = new StringBuilder();
        for (int k = 0; k < 15; k++) {
            odd.append("accept sport ").append(2 * k + 1).append('-').append(2 * k + 2).append(';');
        }
        for (int k = 0; k < 16; k++) {
            even.append("accept sport ").append(2 * k).append(k == 15 ? ";" : "-" + (2 * k + 1) + ";");
        }
        GateHouse full = gateWith(odd.toString(), even.toString());
        CHECKS.same("full lists", full.alike(0, 1), true);
    }

    private static void alikeFinds() {
        CHECKS.sentence("Promise 12", "If not, the first POINT of which they tell other ACTIONS is FOUND.");
        GateHouse gate = gateWith("accept dport 5-9; drop;", "accept dport 5-9 state new,established,related;",
                "accept dport 5-8; accept dport 9 in 0-2;");
        CHECKS.same("differ", gate.alike(0, 1), false);
        CHECKS.same("point", Checks.found(gate), "0 0 0 0 0 5 3");
        CHECKS.same("differ the other way", gate.alike(1, 0), false);
        CHECKS.same("point", Checks.found(gate), "0 0 0 0 0 5 3");
        CHECKS.same("differ", gate.alike(0, 2), false);
        CHECKS.same("point", Checks.found(gate), "3 0 0 0 0 9 0");
        CHECKS.same("alike", gate.alike(0, 0), true);
        CHECKS.same("point stays", Checks.found(gate), "3 0 0 0 0 9 0");
    }

    private static void foundParts() {
        CHECKS.sentence("Promise 13", "Of the POINT FOUND latest: 0 IN, 1 PROTO, 2 SRC, 3 DST, 4 SPORT, 5 DPORT, 6 STATE.");
        GateHouse gate = gateWith("accept in 3 proto 255 from 255.255.255.255 to 128.0.0.0 sport 65535 dport 65534 state invalid;",
                "accept in 2;");
        gate.shadowed(0, 0);
        int[] due = {3, 255, -1, LEAST, 65535, 65534, 3};
        for (int what = 0; what < 7; what++) {
            CHECKS.same("found " + what, gate.found(what), due[what]);
        }
        // It stays, whatever becomes of the list.
        Checks.load(gate, 0, "");
        gate.least(1, 0);
        CHECKS.same("it stays", gate.found(1), 255);
        gate.alike(1, 2);
        CHECKS.same("the latest one", Checks.found(gate), "2 0 0 0 0 0 0");
    }

    private static void foundRefused() {
        CHECKS.sentence("Promise 13", "NoSuchElementException: none was, or another what.");
        Class<NoSuchElementException> none = NoSuchElementException.class;
        GateHouse gate = gateWith("drop; drop;");
        gate.shadowed(0, 1);
        gate.alike(0, 1);
        gate.least(0, 2);
        gate.match(0, 0, 0, 0, 0, 0, 0, 0);
        for (int what = -1; what < 8; what++) {
            int part = what;
            CHECKS.refused("none was, " + what, none, () -> gate.found(part));
        }
        gate.shadowed(0, 0);
        CHECKS.same("one was", gate.found(6), 0);
        for (int what : new int[] {-1, 7, 8, MOST, LEAST}) {
            CHECKS.refused("what " + what, none, () -> gate.found(what));
        }
    }

    private static void leastAnswers() {
        CHECKS.sentence("Promise 14", "LIST to is the LIST, made LEAST .. : how many RULES it has.");
        GateHouse gate = gateWith("accept in 1; accept in 1;", "drop;", "", "policy reject; drop; accept;");
        CHECKS.same("of an empty one", gate.least(2, 1), 0);
        CHECKS.same("it has the place", gate.rules(1), 0);
        CHECKS.same("of one", gate.least(0, 2), 1);
        CHECKS.same("the list stays", gate.rules(0), 2);
        CHECKS.same("in its own place", gate.least(0, 0), 1);
        CHECKS.same("it has gone", gate.rules(0), 1);
        CHECKS.same("again", gate.least(0, 0), 1);
        CHECKS.same("to the last list", gate.least(0, 3), 1);
        CHECKS.same("written", Checks.written(gate, 3), "policy drop;\naccept in 1;\n");
        StringBuilder text = new StringBuilder();
        for (int k = 0; k < 16; k++) {
            text.append("accept dport ").append(2 * k).append(';');
        }
        Checks.load(gate, 1, text.toString());
        CHECKS.same("16 that are all needed", gate.least(1, 2), 16);
        for (int k = 0; k < 16; k++) {
            CHECKS.same("dport of " + k, gate.rule(2, k, 12), 2 * k);
        }
        CHECKS.same("alike", gate.alike(1, 2), true);
    }

    private static void leastTakesOver() {
        CHECKS.sentence("Promise 14", "(its POLICY, too; no packets told)");
        String[] policies = {"drop", "accept", "reject"};
        for (int k = 0; k < 3; k++) {
            GateHouse gate = gateWith("policy " + policies[k] + "; accept in 1; drop in 2; reject in 3;", "policy accept; drop;");
            for (int in = 0; in < 4; in++) {
                gate.packet(in, 50, 1, 2, 3, in, 0);
            }
            int left = gate.least(0, 1);
            CHECKS.same("rules", left, 2);
            CHECKS.same("policy", gate.rule(1, NONE, 0), k);
            for (int i = NONE; i < left; i++) {
                CHECKS.same("told " + i, gate.rule(1, i, 14), 0);
            }
            CHECKS.same("told there", gate.rule(0, NONE, 14), 1);
            gate.least(0, 0);
            for (int i = NONE; i < left; i++) {
                CHECKS.same("told " + i + " in its own place", gate.rule(0, i, 14), 0);
            }
        }
    }
}
