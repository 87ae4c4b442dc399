import java.nio.charset.StandardCharsets;
import java.util.ArrayList;
import java.util.Arrays;
import java.util.HashSet;
import java.util.List;
import java.util.Set;
import java.util.regex.Matcher;
import java.util.regex.Pattern;

/** A list by a second, plain reading of the document: its text is taken apart by patterns, its points are boxes. */
final class PlainList {
    private static final long[] TOPS = {3, 255, 4294967295L, 4294967295L, 65535, 65535};
    private static final List<String> ACTIONS = List.of("drop", "accept", "reject");
    private static final List<String> PARTS = List.of("in", "proto", "from", "to", "sport", "dport", "state");
    private static final List<String> STATES = List.of("new", "established", "related", "invalid");
    private static final List<String> PROTOCOLS = List.of("tcp", "udp", "icmp");
    private static final int[] PROTOCOL_NUMBERS = {6, 17, 1};

    int policy = 0;
    int policyTold = 0;
    final List<Box> rules = new ArrayList<>();

    /** Points of one action: all between two corners, in some states. A rule is one, and counts what it told. */
    static final class Box {
        final long[] low = new long[6];
        final long[] high = TOPS.clone();
        int states = 15;
        int action;
        int told = 0;

        Box(int action) {
            this.action = action;
        }

        Box(Box other) {
            System.arraycopy(other.low, 0, low, 0, 6);
            System.arraycopy(other.high, 0, high, 0, 6);
            states = other.states;
            action = other.action;
        }

        /** What is in both, with this one's action; null, if nothing is. */
        Box and(Box other) {
            Box both = new Box(this);
            boolean some = (both.states &= other.states) != 0;
            for (int f = 0; f < 6; f++) {
                both.low[f] = Math.max(low[f], other.low[f]);
                both.high[f] = Math.min(high[f], other.high[f]);
                some &= both.low[f] <= both.high[f];
            }
            return some ? both : null;
        }

        /** What is in this one and not in the other, as boxes that do not overlap. */
        void without(Box other, List<Box> left) {
            Box both = and(other);
            if (both == null) {
                left.add(this);
                return;
            }
            Box rest = new Box(this);
            for (int f = 0; f < 6; f++) {
                if (rest.low[f] < both.low[f]) {
                    Box below = new Box(rest);
                    below.high[f] = both.low[f] - 1;
                    left.add(below);
                }
                if (rest.high[f] > both.high[f]) {
                    Box above = new Box(rest);
                    above.low[f] = both.high[f] + 1;
                    left.add(above);
                }
                rest.low[f] = both.low[f];
                rest.high[f] = both.high[f];
            }
            rest.states &= ~both.states;
            if (rest.states != 0) {
                left.add(rest);
            }
        }

        long[] firstPoint() {
            long[] first = Arrays.copyOf(low, 7);
            first[6] = Integer.numberOfTrailingZeros(states);
            return first;
        }
    }

    private static List<Box> without(List<Box> boxes, Box other) {
        List<Box> left = new ArrayList<>();
        for (Box box : boxes) {
            box.without(other, left);
        }
        return left;
    }

    private static long[] earlier(long[] one, long[] other) {
        return one == null || Arrays.compare(other, one) < 0 ? other : one;
    }

    /** The first point that reaches a rule; null, if none does. */
    long[] reaching(int i) {
        List<Box> left = List.of(rules.get(i));
        for (Box ahead : rules.subList(0, i)) {
            left = without(left, ahead);
        }
        long[] first = null;
        for (Box box : left) {
            first = earlier(first, box.firstPoint());
        }
        return first;
    }

    /** All points, each in one box, with the action that is told of it. */
    private static List<Box> told(List<Box> rules, int policy) {
        List<Box> all = new ArrayList<>();
        List<Box> left = List.of(new Box(policy));
        for (Box rule : rules) {
            for (Box box : left) {
                Box both = rule.and(box);
                if (both != null) {
                    all.add(both);
                }
            }
            left = without(left, rule);
        }
        all.addAll(left);
        return all;
    }

    private static long[] differing(List<Box> some, List<Box> others) {
        long[] first = null;
        for (Box one : some) {
            for (Box other : others) {
                Box both = one.action == other.action ? null : one.and(other);
                first = both == null ? first : earlier(first, both.firstPoint());
            }
        }
        return first;
    }

    /** The first point of which two lists tell other actions; null, if there is none. */
    long[] differing(PlainList other) {
        return differing(told(rules, policy), told(other.rules, other.policy));
    }

    PlainList madeLeast() {
        List<Box> whole = told(rules, policy);
        List<Box> kept = new ArrayList<>(rules);
        for (int k = rules.size() - 1; k >= 0; k--) {
            Box taken = kept.remove(k);
            if (differing(whole, told(kept, policy)) != null) {
                kept.add(k, taken);
            }
        }
        PlainList least = new PlainList();
        least.policy = policy;
        for (Box rule : kept) {
            least.rules.add(new Box(rule));
        }
        return least;
    }

    int matching(long[] fields, int state) {
        for (int k = 0; k < rules.size(); k++) {
            Box rule = rules.get(k);
            boolean matches = (rule.states >> state & 1) != 0;
            for (int f = 0; f < 6; f++) {
                matches &= rule.low[f] <= fields[f] && fields[f] <= rule.high[f];
            }
            if (matches) {
                return k;
            }
        }
        return -1;
    }

    String written() {
        StringBuilder all = new StringBuilder("policy " + ACTIONS.get(policy) + ";\n");
        for (Box rule : rules) {
            all.append(ACTIONS.get(rule.action));
            for (int f = 0; f < 6; f++) {
                if (rule.low[f] != 0 || rule.high[f] != TOPS[f]) {
                    String low = value(f, rule.low[f]);
                    String high = value(f, rule.high[f]);
                    all.append(' ').append(PARTS.get(f)).append(' ').append(low.equals(high) ? low : low + "-" + high);
                }
            }
            List<String> states = new ArrayList<>(STATES);
            states.removeIf(word -> (rule.states >> STATES.indexOf(word) & 1) == 0);
            all.append(states.size() == 4 ? "" : " state " + String.join(",", states)).append(";\n");
        }
        return all.toString();
    }

    private static String value(int f, long v) {
        return f == 2 || f == 3 ? (v >> 24) + "." + (v >> 16 & 255) + "." + (v >> 8 & 255) + "." + (v & 255) : "" + v;
    }

    /** What is wrong with a text, and where. */
    static final class Fault extends Exception {
        private static final long serialVersionUID = 1;
        final int kind;
        final int place;

        Fault(int kind, int place) {
            this.kind = kind;
            this.place = place;
        }
    }

    static PlainList read(byte[] text) throws Fault {
        return new Reader(new String(text, StandardCharsets.ISO_8859_1)).list();
    }

    /** One token ahead, and a method for each thing that may stand there. */
    private static final class Reader {
        private static final Pattern TOKEN = Pattern.compile("[0-9]+[.][a-z0-9.]*|[a-z0-9]+|.", Pattern.DOTALL);
        private static final String OCTET = "(0?0?[0-9]|0?[1-9][0-9]|1[0-9][0-9]|2[0-4][0-9]|25[0-5])";

        private final String text;
        private String token;
        private int place = 0;
        private int behind = 0;

        Reader(String text) {
            this.text = text;
        }

        /** An empty token is the end. */
        private void step() throws Fault {
            place = behind;
            while (place < text.length() && " \n".indexOf(text.charAt(place)) >= 0) {
                place++;
            }
            if (place >= 2000 && text.length() > 2000) {
                throw new Fault(4, 2000);
            }
            Matcher matcher = TOKEN.matcher(text).region(place, text.length());
            token = matcher.lookingAt() ? matcher.group() : "";
            behind = place + token.length();
            if (!token.isEmpty() && !token.matches("[;,/-]|[a-z]{1,11}|[0-9]{1,5}") && !isAddress()) {
                throw new Fault(1, place);
            }
        }

        private boolean isAddress() {
            return token.matches(OCTET + "([.]" + OCTET + "){3}");
        }

        private void check(boolean right, int kind) throws Fault {
            if (!right) {
                throw new Fault(kind, place);
            }
        }

        /** Steps over a sign, if it stands here. */
        private boolean steps(String sign) throws Fault {
            boolean stands = token.equals(sign);
            if (stands) {
                step();
            }
            return stands;
        }

        private int word(List<String> words) throws Fault {
            int which = words.indexOf(token);
            check(which >= 0, 2);
            step();
            return which;
        }

        private long number(long from, long to) throws Fault {
            check(token.matches("[0-9]+"), 2);
            long value = Long.parseLong(token);
            check(value >= from && value <= to, 3);
            step();
            return value;
        }

        private long address(long from) throws Fault {
            check(isAddress(), 2);
            long value = 0;
            for (String octet : token.split("[.]")) {
                value = value * 256 + Long.parseLong(octet);
            }
            check(value >= from, 3);
            step();
            return value;
        }

        PlainList list() throws Fault {
            PlainList list = new PlainList();
            step();
            if (steps("policy")) {
                list.policy = word(ACTIONS);
                check(token.equals(";"), 2);
                step();
            }
            while (!token.isEmpty()) {
                check(list.rules.size() < 16 || !ACTIONS.contains(token), 4);
                list.rules.add(rule());
            }
            return list;
        }

        private Box rule() throws Fault {
            Box rule = new Box(word(ACTIONS));
            Set<String> seen = new HashSet<>();
            while (!steps(";")) {
                check(seen.add(token) || !PARTS.contains(token), 4);
                part(rule, word(PARTS));
            }
            return rule;
        }

        private void part(Box rule, int f) throws Fault {
            if (f == 6) {
                rule.states = 1 << word(STATES);
                while (steps(",")) {
                    rule.states |= 1 << word(STATES);
                }
            } else if (f == 2 || f == 3) {
                addresses(rule, f);
            } else if (f == 1 && token.matches("[a-z]+")) {
                rule.low[f] = PROTOCOL_NUMBERS[word(PROTOCOLS)];
                rule.high[f] = rule.low[f];
            } else {
                rule.low[f] = number(0, TOPS[f]);
                rule.high[f] = steps("-") ? number(rule.low[f], TOPS[f]) : rule.low[f];
            }
        }

        private void addresses(Box rule, int f) throws Fault {
            rule.low[f] = address(0);
            rule.high[f] = rule.low[f];
            if (steps("-")) {
                rule.high[f] = address(rule.low[f]);
            } else if (steps("/")) {
                long alike = 1L << (32 - number(0, 32));
                rule.low[f] -= rule.low[f] % alike;
                rule.high[f] = rule.low[f] + alike - 1;
            }
        }
    }
}
