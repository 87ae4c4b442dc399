import java.util.NoSuchElementException;

/**
 * A gate between nets: it reads datagrams and lists of rules from a tape of bytes, tells what the
 * lists do, and holds packets against the first list and a table of connections.
 */
public final class GateHouse {
    public static final int NONE = -1;

    private static final int LISTS = 4;
    private static final int MOST_RULES = 16;
    private static final int TAPE_BYTES = 2100;
    private static final int TEXT_BYTES = 2000;
    // The longest list that can be written has 2751 bytes.
    private static final int OUT_BYTES = 3000;

    private static final int IN = 0;
    private static final int PROTO = 1;
    private static final int SRC = 2;
    private static final int DST = 3;
    private static final int SPORT = 4;
    private static final int DPORT = 5;
    private static final int FIELDS = 6;
    // A point has the state behind its fields, and a rule tells it behind its ranges.
    private static final int STATE = 6;
    private static final int COORDINATES = 7;
    private static final long[] TOPS = {3L, 255L, 4294967295L, 4294967295L, 65535L, 65535L, 3L};

    private static final int ICMP = 1;
    private static final int TCP = 6;
    private static final int UDP = 17;

    private static final int FIN = 1;
    private static final int SYN = 2;
    private static final int RST = 4;
    private static final int ACK = 16;

    private static final int DROP = 0;
    private static final int ACCEPT = 1;
    private static final int ACTIONS = 3;

    private static final int NEW = 0;
    private static final int ESTABLISHED = 1;
    private static final int RELATED = 2;
    private static final int INVALID = 3;
    private static final int STATES = 4;
    private static final int ALL_STATES = 15;

    private static final int FULL = 16;

    private final Octets tape;
    private final Octets out;
    private final RuleList[] lists;
    private final TextReader reader;
    private final Search search;
    private final Table table;
    private final Packet latest;
    private final Packet told;
    private final Packet probe;
    private final long[] point;
    // What a load or a least makes, until it takes the place of a list.
    private RuleList draft;
    private boolean hasPoint;
    private int faultKind;
    private int came;

    public GateHouse() {
        tape = new Octets(TAPE_BYTES);
        out = new Octets(OUT_BYTES);
        lists = new RuleList[LISTS];
        for (int k = 0; k < LISTS; k++) {
            lists[k] = new RuleList();
        }
        draft = new RuleList();
        reader = new TextReader(tape);
        search = new Search();
        table = new Table();
        latest = new Packet();
        told = new Packet();
        probe = new Packet();
        point = new long[COORDINATES];
        hasPoint = false;
        faultKind = 0;
        came = 0;
    }

    public int feed(int a, int b, int c, int d, int e) {
        if (tape.size + 20 > TAPE_BYTES) {
            return NONE;
        }
        tape.addQuad(a);
        tape.addQuad(b);
        tape.addQuad(c);
        tape.addQuad(d);
        tape.addQuad(e);
        return tape.size;
    }

    public boolean end(int n) {
        if (n < 0 || n > tape.size) {
            return false;
        }
        tape.size = n;
        return true;
    }

    public int load(int list) throws IndexOutOfBoundsException {
        checkList(list);
        boolean good = reader.read(draft);
        tape.size = 0;
        faultKind = reader.faultKind;
        if (!good) {
            return -1 - reader.faultPlace;
        }
        placeDraft(list);
        return lists[list].size;
    }

    public int fault() {
        return faultKind;
    }

    public int rules(int list) throws IndexOutOfBoundsException {
        checkList(list);
        return lists[list].size;
    }

    public int rule(int list, int i, int what) throws IndexOutOfBoundsException, NoSuchElementException {
        checkList(list);
        RuleList from = lists[list];
        if (i == NONE) {
            return policyPart(from, what);
        }
        checkRule(from, i);
        if (what < 0 || what > 14) {
            throw new NoSuchElementException("a rule has no such part");
        }
        return from.at(i).part(what);
    }

    public int write(int list) throws IndexOutOfBoundsException {
        checkList(list);
        out.size = 0;
        ListWriter.put(lists[list], out);
        return out.size;
    }

    public int octet(int k) throws NoSuchElementException {
        if (k < 0 || k >= out.size) {
            throw new NoSuchElementException("there is no such byte");
        }
        return out.at(k);
    }

    public int match(int list, int in, int proto, int src, int dst, int sport, int dport, int state)
            throws IndexOutOfBoundsException, IllegalArgumentException {
        checkList(list);
        checkFields(in, proto, sport, dport);
        if (state < 0 || state >= STATES) {
            throw new IllegalArgumentException("there is no such state");
        }
        probe.fill(in, proto, src, dst, sport, dport);
        return lists[list].firstFor(probe, state);
    }

    public boolean shadowed(int list, int i) throws IndexOutOfBoundsException, NoSuchElementException {
        checkList(list);
        checkRule(lists[list], i);
        if (!search.reaches(lists[list], i)) {
            return true;
        }
        keepPoint();
        return false;
    }

    public boolean alike(int one, int other) throws IndexOutOfBoundsException {
        checkList(one);
        checkList(other);
        if (one == other) {
            return true;
        }
        if (!search.tellsApart(lists[one], lists[other])) {
            return true;
        }
        keepPoint();
        return false;
    }

    public int found(int what) throws NoSuchElementException {
        if (!hasPoint || what < 0 || what >= COORDINATES) {
            throw new NoSuchElementException("no such point was found");
        }
        return (int) point[what];
    }

    public int least(int list, int to) throws IndexOutOfBoundsException {
        checkList(list);
        checkList(to);
        RuleList from = lists[list];
        draft.takeOver(from, search.needed(from));
        placeDraft(to);
        return lists[to].size;
    }

    public boolean now(int time) {
        return table.setTime(time);
    }

    public boolean room(int n) {
        return table.setRoom(n);
    }

    public int packet(int in, int proto, int src, int dst, int sport, int dport, int flags)
            throws IllegalArgumentException {
        checkFields(in, proto, sport, dport);
        if (flags < 0 || flags > 63) {
            throw new IllegalArgumentException("there are no such flags");
        }
        latest.fill(in, proto, src, dst, sport, dport);
        latest.flags = flags;
        return judge(false);
    }

    public int datagram(int in) throws IllegalArgumentException {
        if (in < 0 || in > TOPS[IN]) {
            throw new IllegalArgumentException("there is no such way in");
        }
        faultKind = Wire.faultOf(tape);
        if (faultKind != 0) {
            int place = Wire.placeOf(faultKind, tape);
            tape.size = 0;
            return -1 - place;
        }
        Wire.readPacket(tape, 0, latest);
        latest.field[IN] = in;
        latest.flags = Wire.flagsOf(tape);
        boolean tells = Wire.tellsOf(tape, told);
        tape.size = 0;
        return judge(tells);
    }

    public int pack() throws NoSuchElementException {
        if (came == 0) {
            throw new NoSuchElementException("no packet came");
        }
        out.size = 0;
        Wire.put(latest, out);
        return out.size;
    }

    public int connection(int i, int what) throws NoSuchElementException {
        if (i < 0 || i >= table.size) {
            throw new NoSuchElementException("there is no such connection");
        }
        if (what < 0 || what > 8) {
            throw new NoSuchElementException("a connection has no such part");
        }
        return table.at(i).part(what);
    }

    public int count(int what) {
        switch (what) {
            case 0: return tape.size;
            case 1: return out.size;
            case 2: return table.time;
            case 3: return table.most;
            case 4: return table.size;
            case 5: return came;
            case 6: return table.pushedOut;
            case 7: return table.refused;
            default: return NONE;
        }
    }

    private static void checkList(int list) {
        if (list < 0 || list >= LISTS) {
            throw new IndexOutOfBoundsException("there is no such list");
        }
    }

    private static void checkRule(RuleList list, int i) {
        if (i < 0 || i >= list.size) {
            throw new NoSuchElementException("there is no such rule");
        }
    }

    private static void checkFields(int in, int proto, int sport, int dport) {
        if (in < 0 || in > TOPS[IN] || proto < 0 || proto > TOPS[PROTO]) {
            throw new IllegalArgumentException("there is no such way in, or no such protocol");
        }
        if (sport < 0 || sport > TOPS[SPORT] || dport < 0 || dport > TOPS[DPORT]) {
            throw new IllegalArgumentException("there is no such port");
        }
    }

    private static int policyPart(RuleList list, int what) {
        if (what != 0 && what != 14) {
            throw new NoSuchElementException("a policy has no such part");
        }
        return what == 0 ? list.policy : list.policyTold;
    }

    private void placeDraft(int list) {
        if (list >= 0 && list < LISTS) {
            RuleList old = lists[list];
            lists[list] = draft;
            draft = old;
        }
    }

    private void keepPoint() {
        for (int k = 0; k < COORDINATES; k++) {
            point[k] = search.point[k];
        }
        hasPoint = true;
    }

    private int judge(boolean tells) {
        came++;
        boolean related = tells && table.placeOf(told) != NONE;
        int place = related ? NONE : table.placeOf(latest);
        int state = related ? RELATED : table.stateOf(latest, place);
        int action = lists[0].tell(latest, state);
        int answer = action + 4 * state;
        if (action != ACCEPT || state == RELATED || state == INVALID) {
            return answer;
        }
        if (place != NONE) {
            table.step(latest, place);
            return answer;
        }
        return table.begin(latest) ? answer : DROP + 4 * state + FULL;
    }

    private static String actionWord(int action) {
        switch (action) {
            case 0: return "drop";
            case 1: return "accept";
            default: return "reject";
        }
    }

    private static String partWord(int part) {
        switch (part) {
            case IN: return "in";
            case PROTO: return "proto";
            case SRC: return "from";
            case DST: return "to";
            case SPORT: return "sport";
            case DPORT: return "dport";
            default: return "state";
        }
    }

    private static String stateWord(int state) {
        switch (state) {
            case NEW: return "new";
            case ESTABLISHED: return "established";
            case RELATED: return "related";
            default: return "invalid";
        }
    }

    /** A row of bytes that grows at its end up to a bound. */
    private static final class Octets {
        final byte[] bytes;
        int size;

        Octets(int most) {
            bytes = new byte[most > 0 ? most : 0];
            size = 0;
        }

        int at(int k) {
            return k >= 0 && k < size && k < bytes.length ? bytes[k] & 255 : 0;
        }

        int pair(int k) {
            return at(k) * 256 + at(k + 1);
        }

        long quad(int k) {
            return pair(k) * 65536L + pair(k + 2);
        }

        void add(int octet) {
            if (size >= 0 && size < bytes.length) {
                bytes[size] = (byte) octet;
                size++;
            }
        }

        void addPair(int pair) {
            add(pair >>> 8);
            add(pair);
        }

        void addQuad(int quad) {
            addPair(quad >>> 16);
            addPair(quad);
        }

        void setPair(int k, int pair) {
            if (k >= 0 && k + 1 < size && k + 1 < bytes.length) {
                bytes[k] = (byte) (pair >>> 8);
                bytes[k + 1] = (byte) pair;
            }
        }

        void addText(String text) {
            for (int k = 0; k < text.length(); k++) {
                add(text.charAt(k));
            }
        }

        /** A number of at most five digits. */
        void addNumber(int number) {
            for (int unit = 10000; unit >= 1; unit /= 10) {
                if (number >= unit || unit == 1) {
                    add('0' + number / unit % 10);
                }
            }
        }
    }

    /** The fields of a packet, the flags aside from the six that rules tell of. */
    private static final class Packet {
        final long[] field;
        int flags;

        Packet() {
            field = new long[FIELDS];
            flags = 0;
        }

        void fill(int in, int proto, int src, int dst, int sport, int dport) {
            field[IN] = in;
            field[PROTO] = proto;
            field[SRC] = src & TOPS[SRC];
            field[DST] = dst & TOPS[DST];
            field[SPORT] = sport;
            field[DPORT] = dport;
        }

        boolean isOf(int proto) {
            return field[PROTO] == proto;
        }

        int icmpType() {
            return (int) (field[SPORT] >> 8);
        }

        /** An ICMP has an identifier, which stands as DPORT, only where it asks or answers an echo. */
        boolean isEcho() {
            return icmpType() == 0 || icmpType() == 8;
        }
    }

    /** A rule: its action, what from and up to what it matches, its states, and how often it was told. */
    private static final class Rule {
        final long[] low;
        final long[] high;
        int states;
        int action;
        int told;

        Rule() {
            low = new long[FIELDS];
            high = new long[FIELDS];
            states = ALL_STATES;
            action = DROP;
            told = 0;
        }

        void matchAll(int newAction) {
            for (int f = 0; f < FIELDS; f++) {
                low[f] = 0;
                high[f] = TOPS[f];
            }
            states = ALL_STATES;
            action = newAction;
            told = 0;
        }

        void takeOver(Rule other) {
            for (int f = 0; f < FIELDS; f++) {
                low[f] = other.low[f];
                high[f] = other.high[f];
            }
            states = other.states;
            action = other.action;
            told = 0;
        }

        void setRange(int f, long from, long to) {
            if (f >= 0 && f < FIELDS) {
                low[f] = from;
                high[f] = to;
            }
        }

        /** Whether it matches all there is by a field, or by the state. */
        boolean isWhole(int f) {
            if (f < 0 || f >= FIELDS) {
                return states == ALL_STATES;
            }
            return low[f] == 0 && high[f] == TOPS[f];
        }

        boolean hasState(int state) {
            return (states >> state & 1) != 0;
        }

        boolean takes(Packet p, int state) {
            for (int f = 0; f < FIELDS; f++) {
                if (p.field[f] < low[f] || p.field[f] > high[f]) {
                    return false;
                }
            }
            return hasState(state);
        }

        boolean isSameAs(Rule other) {
            for (int f = 0; f < FIELDS; f++) {
                if (low[f] != other.low[f] || high[f] != other.high[f]) {
                    return false;
                }
            }
            return states == other.states && action == other.action;
        }

        int part(int what) {
            if (what >= 2 && what < 2 + 2 * FIELDS) {
                int f = (what - 2) / 2;
                return (int) (what % 2 == 0 ? low[f] : high[f]);
            }
            switch (what) {
                case 0: return action;
                case 1: return states;
                default: return told;
            }
        }
    }

    /** A list: its policy and its rules. */
    private static final class RuleList {
        final Rule[] row;
        int size;
        int policy;
        int policyTold;

        RuleList() {
            row = new Rule[MOST_RULES];
            for (int k = 0; k < MOST_RULES; k++) {
                row[k] = new Rule();
            }
            size = 0;
            policy = DROP;
            policyTold = 0;
        }

        Rule at(int k) {
            return row[k >= 0 && k < MOST_RULES ? k : 0];
        }

        void clear() {
            size = 0;
            policy = DROP;
            policyTold = 0;
        }

        void takeOver(RuleList other, int kept) {
            clear();
            policy = other.policy;
            for (int k = 0; k < other.size && k < MOST_RULES; k++) {
                if ((kept >> k & 1) != 0) {
                    at(size).takeOver(other.at(k));
                    size++;
                }
            }
        }

        int firstFor(Packet p, int state) {
            for (int k = 0; k < size && k < MOST_RULES; k++) {
                if (row[k].takes(p, state)) {
                    return k;
                }
            }
            return NONE;
        }

        /** The action for a packet that comes, which is counted where it is told. */
        int tell(Packet p, int state) {
            int k = firstFor(p, state);
            if (k == NONE) {
                policyTold++;
                return policy;
            }
            at(k).told++;
            return at(k).action;
        }
    }

    /** Reads the text of a list, token by token, up to its first fault. */
    private static final class TextReader {
        // Kinds of tokens; a sign is a kind of its own.
        private static final int END = 256;
        private static final int WORD = 257;
        private static final int NUMBER = 258;
        private static final int ADDRESS = 259;
        private static final int NO_TOKEN = 260;
        // What stands where a text has had its last byte and goes on.
        private static final int BEYOND = 261;

        // What is awaited next.
        private static final int NOTHING = 0;
        private static final int START = 1;
        private static final int POLICY = 2;
        private static final int POLICY_END = 3;
        private static final int RULE = 4;
        private static final int PART = 5;
        private static final int VALUE = 6;
        private static final int BEHIND_VALUE = 7;
        private static final int LAST_VALUE = 8;
        private static final int BITS = 9;
        private static final int STATE_WORD = 10;
        private static final int BEHIND_STATE = 11;

        private static final int FINE = 0;
        private static final int SHAPELESS = 1;
        private static final int CANT_COME = 2;
        private static final int OUT_OF_RANGE = 3;
        private static final int TOO_MANY = 4;

        private static final int MOST_LETTERS = 11;
        private static final int MOST_DIGITS = 5;

        final Octets text;
        int faultKind;
        int faultPlace;
        // The latest token: its kind, where it begins, where what follows it begins, and its value.
        private int kind;
        private int start;
        private int next;
        private long value;
        private int awaited;
        // Of the rule that is being read: its parts so far, the latest of them and that one's first value.
        private int seen;
        private int part;
        private long from;

        TextReader(Octets text) {
            this.text = text;
            faultKind = FINE;
            faultPlace = 0;
            kind = END;
            start = 0;
            next = 0;
            value = 0;
            awaited = NOTHING;
            seen = 0;
            part = 0;
            from = 0;
        }

        /** False, if there is a fault; what the list is then is of no use. */
        boolean read(RuleList list) {
            faultKind = FINE;
            next = 0;
            awaited = START;
            list.clear();
            // Every token but the end has a byte or more.
            for (int k = 0; k <= TAPE_BYTES && awaited != NOTHING; k++) {
                step();
                faultKind = kind == NO_TOKEN ? SHAPELESS : kind == BEYOND ? TOO_MANY : take(list);
                if (faultKind != FINE) {
                    faultPlace = start;
                    return false;
                }
            }
            return true;
        }

        private int take(RuleList list) {
            switch (awaited) {
                case START:
                    return isWord("policy") ? go(POLICY) : takeRule(list);
                case POLICY:
                    return takePolicy(list);
                case POLICY_END:
                    return kind == ';' ? go(RULE) : CANT_COME;
                case RULE:
                    return takeRule(list);
                case VALUE:
                    return takeValue(list.at(list.size));
                case BEHIND_VALUE:
                    if (kind == '-') {
                        return go(LAST_VALUE);
                    }
                    return kind == '/' && isAddressPart() ? go(BITS) : takePart(list);
                case LAST_VALUE:
                    return takeLastValue(list.at(list.size));
                case BITS:
                    return takeBits(list.at(list.size));
                case STATE_WORD:
                    return takeState(list.at(list.size));
                case BEHIND_STATE:
                    return kind == ',' ? go(STATE_WORD) : takePart(list);
                default:
                    return takePart(list);
            }
        }

        private int go(int nextAwaited) {
            awaited = nextAwaited;
            return FINE;
        }

        private int takePolicy(RuleList list) {
            int action = actionHere();
            if (action == NONE) {
                return CANT_COME;
            }
            list.policy = action;
            return go(POLICY_END);
        }

        private int takeRule(RuleList list) {
            if (kind == END) {
                return go(NOTHING);
            }
            int action = actionHere();
            if (action == NONE) {
                return CANT_COME;
            }
            if (list.size >= MOST_RULES) {
                return TOO_MANY;
            }
            list.at(list.size).matchAll(action);
            seen = 0;
            return go(PART);
        }

        private int takePart(RuleList list) {
            if (kind == ';') {
                list.size++;
                return go(RULE);
            }
            part = partHere();
            if (part == NONE) {
                return CANT_COME;
            }
            if ((seen >> part & 1) != 0) {
                return TOO_MANY;
            }
            seen |= 1 << part;
            if (part != STATE) {
                return go(VALUE);
            }
            list.at(list.size).states = 0;
            return go(STATE_WORD);
        }

        private int takeValue(Rule rule) {
            if (part == PROTO && kind == WORD) {
                return takeProtocol(rule);
            }
            if (!isValue()) {
                return CANT_COME;
            }
            if (value > top()) {
                return OUT_OF_RANGE;
            }
            from = value;
            rule.setRange(part, value, value);
            return go(BEHIND_VALUE);
        }

        private int takeProtocol(Rule rule) {
            int proto = isWord("tcp") ? TCP : isWord("udp") ? UDP : isWord("icmp") ? ICMP : NONE;
            if (proto == NONE) {
                return CANT_COME;
            }
            rule.setRange(PROTO, proto, proto);
            return go(PART);
        }

        private int takeLastValue(Rule rule) {
            if (!isValue()) {
                return CANT_COME;
            }
            if (value < from || value > top()) {
                return OUT_OF_RANGE;
            }
            rule.setRange(part, from, value);
            return go(PART);
        }

        private int takeBits(Rule rule) {
            if (kind != NUMBER) {
                return CANT_COME;
            }
            if (value > 32) {
                return OUT_OF_RANGE;
            }
            long free = (1L << (32 - (int) value)) - 1;
            rule.setRange(part, from & ~free, from | free);
            return go(PART);
        }

        private int takeState(Rule rule) {
            int state = stateHere();
            if (state == NONE) {
                return CANT_COME;
            }
            rule.states |= 1 << state;
            return go(BEHIND_STATE);
        }

        private boolean isAddressPart() {
            return part == SRC || part == DST;
        }

        private boolean isValue() {
            return kind == (isAddressPart() ? ADDRESS : NUMBER);
        }

        private long top() {
            return part >= 0 && part < FIELDS ? TOPS[part] : 0;
        }

        private int actionHere() {
            for (int k = 0; k < ACTIONS; k++) {
                if (isWord(actionWord(k))) {
                    return k;
                }
            }
            return NONE;
        }

        private int partHere() {
            for (int k = 0; k < COORDINATES; k++) {
                if (isWord(partWord(k))) {
                    return k;
                }
            }
            return NONE;
        }

        private int stateHere() {
            for (int k = 0; k < STATES; k++) {
                if (isWord(stateWord(k))) {
                    return k;
                }
            }
            return NONE;
        }

        private boolean isWord(String word) {
            if (kind != WORD || next - start != word.length()) {
                return false;
            }
            for (int k = 0; k < word.length(); k++) {
                if (text.at(start + k) != word.charAt(k)) {
                    return false;
                }
            }
            return true;
        }

        private void step() {
            start = next;
            while (start < text.size && (text.at(start) == 10 || text.at(start) == 32)) {
                start++;
            }
            next = start;
            value = 0;
            if (start >= TEXT_BYTES && text.size > TEXT_BYTES) {
                kind = BEYOND;
                start = TEXT_BYTES;
            } else if (start >= text.size) {
                kind = END;
            } else if (isLetterOrDigit(text.at(start))) {
                readRun();
            } else {
                kind = isSign(text.at(start)) ? text.at(start) : NO_TOKEN;
                next = start + 1;
            }
        }

        private void readRun() {
            int letters = 0;
            while (next < text.size && isLetterOrDigit(text.at(next))) {
                letters += isDigit(text.at(next)) ? 0 : 1;
                next++;
            }
            int length = next - start;
            if (letters == 0 && text.at(next) == '.') {
                readAddress();
            } else if (letters == 0) {
                kind = length <= MOST_DIGITS ? NUMBER : NO_TOKEN;
                value = length <= MOST_DIGITS ? numberBetween(start, next) : 0;
            } else {
                kind = letters == length && length <= MOST_LETTERS ? WORD : NO_TOKEN;
            }
        }

        private void readAddress() {
            while (next < text.size && (isLetterOrDigit(text.at(next)) || text.at(next) == '.')) {
                next++;
            }
            kind = NO_TOKEN;
            int groups = 0;
            int groupStart = start;
            for (int k = start; k <= next; k++) {
                if (k == next || text.at(k) == '.') {
                    int group = groupBetween(groupStart, k);
                    if (group == NONE || groups == 4) {
                        return;
                    }
                    value = value * 256 + group;
                    groups++;
                    groupStart = k + 1;
                }
            }
            if (groups == 4) {
                kind = ADDRESS;
            }
        }

        private int groupBetween(int first, int behind) {
            if (behind <= first || behind - first > 3) {
                return NONE;
            }
            for (int k = first; k < behind; k++) {
                if (!isDigit(text.at(k))) {
                    return NONE;
                }
            }
            int group = numberBetween(first, behind);
            return group <= 255 ? group : NONE;
        }

        private int numberBetween(int first, int behind) {
            int number = 0;
            for (int k = first; k < behind; k++) {
                number = number * 10 + text.at(k) - '0';
            }
            return number;
        }

        private static boolean isDigit(int sign) {
            return sign >= '0' && sign <= '9';
        }

        private static boolean isLetterOrDigit(int sign) {
            return isDigit(sign) || sign >= 'a' && sign <= 'z';
        }

        private static boolean isSign(int sign) {
            return sign == ';' || sign == ',' || sign == '-' || sign == '/';
        }
    }

    /** Writes a list as a text. */
    private static final class ListWriter {
        static void put(RuleList list, Octets out) {
            out.addText("policy ");
            out.addText(actionWord(list.policy));
            putEnd(out);
            for (int k = 0; k < list.size && k < MOST_RULES; k++) {
                putRule(list.at(k), out);
            }
        }

        private static void putRule(Rule rule, Octets out) {
            out.addText(actionWord(rule.action));
            for (int f = 0; f < COORDINATES; f++) {
                if (!rule.isWhole(f)) {
                    out.add(' ');
                    out.addText(partWord(f));
                    out.add(' ');
                    putPart(rule, f, out);
                }
            }
            putEnd(out);
        }

        private static void putEnd(Octets out) {
            out.add(';');
            out.add(10);
        }

        private static void putPart(Rule rule, int f, Octets out) {
            if (f < 0 || f >= FIELDS) {
                putStates(rule, out);
                return;
            }
            putValue(rule.low[f], f, out);
            if (rule.high[f] != rule.low[f]) {
                out.add('-');
                putValue(rule.high[f], f, out);
            }
        }

        private static void putValue(long value, int f, Octets out) {
            if (f != SRC && f != DST) {
                out.addNumber((int) value);
                return;
            }
            for (int shift = 24; shift >= 0; shift -= 8) {
                out.addNumber((int) (value >> shift & 255));
                if (shift > 0) {
                    out.add('.');
                }
            }
        }

        private static void putStates(Rule rule, Octets out) {
            boolean first = true;
            for (int state = 0; state < STATES; state++) {
                if (rule.hasState(state)) {
                    if (!first) {
                        out.add(',');
                    }
                    out.addText(stateWord(state));
                    first = false;
                }
            }
        }
    }

    /**
     * Looks for the first point of which two sides, each a list of rules with a policy, tell other
     * actions. The points are gone through coordinate by coordinate; each coordinate is cut where a
     * range begins or has ended, so that all values of one cut meet the same rules. A side that is
     * left after some coordinates is one number: a bit for each rule that may still match, and its
     * policy above them.
     */
    private static final class Search {
        private static final int SIDE = 16;
        private static final int RULE_BITS = 65535;
        private static final int POLICY_BITS = 3 << SIDE;
        // 0, and of 32 rules where each begins and where each has ended.
        private static final int MOST_CUTS = 65;
        private static final int MEMORY = 1024;
        private static final long SPREAD = 0x9E3779B97F4A7C15L;

        final long[] point;
        // Of each coordinate its cuts, and which rules each cut meets (the other side's 16 bits higher).
        private final long[][] cut;
        private final int[][] met;
        private final int[] cuts;
        // Which rules match all there is by this and all later coordinates.
        private final int[] wholeFrom;
        private final int[] ofAction;
        // Bits of rules that are the same on both sides.
        private int twins;
        // What was gone through in vain; a turn marks what is of one search.
        private final long[] inVain;
        private long turn;

        Search() {
            point = new long[COORDINATES];
            cut = new long[COORDINATES][MOST_CUTS];
            met = new int[COORDINATES][MOST_CUTS];
            cuts = new int[COORDINATES];
            wholeFrom = new int[COORDINATES + 1];
            ofAction = new int[ACTIONS];
            twins = 0;
            inVain = new long[MEMORY];
            turn = 0;
        }

        boolean tellsApart(RuleList one, RuleList other) {
            prepare(one, one.size, other, other.size);
            return differ(side(bitsBelow(one.size), one.policy), side(bitsBelow(other.size), other.policy));
        }

        /** A rule is reached where a list that accepts by it alone differs from one that never does. */
        boolean reaches(RuleList list, int i) {
            prepare(list, i + 1, list, 0);
            ofAction[0] = bitsBelow(i);
            ofAction[1] = 1 << i;
            ofAction[2] = 0;
            return differ(side(bitsBelow(i + 1), 0), side(0, 0));
        }

        /** The rules that are left, as bits, when all that are not needed have been taken out. */
        int needed(RuleList list) {
            prepare(list, list.size, list, list.size);
            int kept = bitsBelow(list.size);
            for (int k = list.size - 1; k >= 0; k--) {
                int without = kept & ~(1 << k);
                if (!differ(side(kept, list.policy), side(without, list.policy))) {
                    kept = without;
                }
            }
            return kept;
        }

        private static int bitsBelow(int n) {
            return (1 << n) - 1;
        }

        private static int side(int bits, int policy) {
            return bits | policy << SIDE;
        }

        private boolean differ(int one, int other) {
            turn++;
            return descend(0, one, other);
        }

        private void prepare(RuleList one, int ones, RuleList other, int others) {
            for (int c = 0; c < COORDINATES; c++) {
                cut[c][0] = 0;
                cuts[c] = 1;
                wholeFrom[c] = 0;
            }
            // Behind the last coordinate every rule that is left matches.
            wholeFrom[COORDINATES] = -1;
            for (int a = 0; a < ACTIONS; a++) {
                ofAction[a] = 0;
            }
            addCuts(one, ones);
            addCuts(other, others);
            clearMet();
            addMet(one, ones, 0);
            addMet(other, others, SIDE);
            twins = 0;
            for (int k = 0; k < ones && k < others; k++) {
                twins |= one.at(k).isSameAs(other.at(k)) ? 1 << k : 0;
            }
        }

        private void addCuts(RuleList list, int n) {
            for (int k = 0; k < n && k < MOST_RULES; k++) {
                Rule rule = list.at(k);
                for (int f = 0; f < FIELDS; f++) {
                    addCut(f, rule.low[f]);
                    addCut(f, rule.high[f] + 1);
                }
            }
            for (int state = 1; state < STATES; state++) {
                addCut(STATE, state);
            }
        }

        private void addCut(int c, long value) {
            if (c < 0 || c >= COORDINATES || value > TOPS[c] || cuts[c] >= MOST_CUTS) {
                return;
            }
            int place = cuts[c];
            while (place > 0 && cut[c][place - 1] >= value) {
                place--;
            }
            if (place < cuts[c] && cut[c][place] == value) {
                return;
            }
            for (int k = cuts[c]; k > place; k--) {
                cut[c][k] = cut[c][k - 1];
            }
            cut[c][place] = value;
            cuts[c]++;
        }

        private void clearMet() {
            for (int c = 0; c < COORDINATES; c++) {
                for (int k = 0; k < cuts[c] && k < MOST_CUTS; k++) {
                    met[c][k] = 0;
                }
            }
        }

        private void addMet(RuleList list, int n, int shift) {
            for (int k = 0; k < n && k < MOST_RULES; k++) {
                Rule rule = list.at(k);
                int bit = 1 << (k + shift);
                boolean whole = true;
                for (int c = COORDINATES - 1; c >= 0; c--) {
                    whole = whole && rule.isWhole(c);
                    wholeFrom[c] |= whole ? bit : 0;
                    addMetBy(rule, c, bit);
                }
                int action = rule.action;
                if (action >= 0 && action < ACTIONS) {
                    ofAction[action] |= bit;
                }
            }
        }

        private void addMetBy(Rule rule, int c, int bit) {
            for (int k = 0; k < cuts[c] && k < MOST_CUTS; k++) {
                long value = cut[c][k];
                boolean meets = c == STATE ? rule.hasState((int) value)
                        : rule.low[c] <= value && value <= rule.high[c];
                met[c][k] |= meets ? bit : 0;
            }
        }

        private boolean descend(int c, int one, int other) {
            if (c < 0 || c > COORDINATES) {
                return false;
            }
            int here = settle(c, one, 0);
            int there = settle(c, other, SIDE);
            if (here == there && (here & RULE_BITS & ~twins) == 0) {
                return false;
            }
            if ((here & RULE_BITS) == 0 && (there & RULE_BITS) == 0) {
                for (int k = c; k < COORDINATES; k++) {
                    point[k] = 0;
                }
                return true;
            }
            if (c == COORDINATES) {
                return false;
            }
            long key = turn << 40 | (long) c << 36 | (long) here << 18 | there;
            int slot = (int) (key * SPREAD >>> 32) & MEMORY - 1;
            if (inVain[slot] == key) {
                return false;
            }
            if (goThrough(c, here, there)) {
                return true;
            }
            inVain[slot] = key;
            return false;
        }

        private boolean goThrough(int c, int one, int other) {
            int lastOne = NONE;
            int lastOther = NONE;
            for (int k = 0; k < cuts[c] && k < MOST_CUTS; k++) {
                int nextOne = one & (met[c][k] & RULE_BITS | POLICY_BITS);
                int nextOther = other & (met[c][k] >>> SIDE | POLICY_BITS);
                if (nextOne == lastOne && nextOther == lastOther) {
                    continue;
                }
                lastOne = nextOne;
                lastOther = nextOther;
                point[c] = cut[c][k];
                if (descend(c + 1, nextOne, nextOther)) {
                    return true;
                }
            }
            return false;
        }

        /**
         * The same side with as few rules as can be: a rule that matches all that is left is its
         * policy, and so are the last rules that do what the policy does.
         */
        private int settle(int c, int side, int shift) {
            int bits = side & RULE_BITS;
            int policy = side >>> SIDE;
            int whole = bits & wholeFrom[c] >>> shift;
            if (whole != 0) {
                int first = whole & -whole;
                bits &= first - 1;
                policy = actionOf(first << shift);
            }
            int others = policy >= 0 && policy < ACTIONS ? bits & ~(ofAction[policy] >>> shift) : bits;
            return side(bits & upToHighest(others), policy);
        }

        private int actionOf(int bit) {
            for (int a = 0; a < ACTIONS - 1; a++) {
                if ((ofAction[a] & bit) != 0) {
                    return a;
                }
            }
            return ACTIONS - 1;
        }

        private static int upToHighest(int bits) {
            int filled = bits | bits >>> 1;
            filled |= filled >>> 2;
            filled |= filled >>> 4;
            return filled | filled >>> 8;
        }
    }

    /** A connection between two ends, by the packet that began it. */
    private static final class Connection {
        int proto;
        long src;
        long dst;
        long sport;
        long dport;
        int phase;
        boolean answered;
        int firstFin;
        int due;

        Connection() {
            proto = 0;
            src = 0;
            dst = 0;
            sport = 0;
            dport = 0;
            phase = 0;
            answered = false;
            firstFin = 0;
            due = 0;
        }

        void begin(Packet p) {
            proto = (int) p.field[PROTO];
            src = p.field[SRC];
            dst = p.field[DST];
            sport = p.field[SPORT];
            dport = p.field[DPORT];
            phase = proto == TCP ? Phases.SENT : 0;
            answered = false;
            firstFin = 0;
        }

        /** As what a packet is of it: Phases.ORIGIN, Phases.ANSWER, or 0 where it is of another. */
        int sideOf(Packet p) {
            if (!p.isOf(proto)) {
                return 0;
            }
            boolean forth = p.field[SRC] == src && p.field[DST] == dst;
            boolean back = p.field[SRC] == dst && p.field[DST] == src;
            if (proto == ICMP) {
                forth = forth && p.icmpType() == 8 && p.field[DPORT] == dport;
                back = back && p.icmpType() == 0 && p.field[DPORT] == dport;
            } else {
                forth = forth && p.field[SPORT] == sport && p.field[DPORT] == dport;
                back = back && p.field[SPORT] == dport && p.field[DPORT] == sport;
            }
            return forth ? Phases.ORIGIN : back ? Phases.ANSWER : 0;
        }

        int phaseBehind(Packet p, int side) {
            return proto == TCP ? Phases.behind(phase, p.flags, side, firstFin) : 0;
        }

        void step(Packet p, int side) {
            int behind = phaseBehind(p, side);
            answered = answered || side == Phases.ANSWER;
            if (behind == Phases.SENT) {
                answered = false;
                firstFin = 0;
            } else if (behind == Phases.CLOSING && phase != Phases.CLOSING) {
                firstFin = side;
            }
            phase = behind;
        }

        int lifetime() {
            switch (proto) {
                case TCP: return Phases.lifetime(phase);
                case UDP: return answered ? 180 : 30;
                case ICMP: return 30;
                default: return 600;
            }
        }

        int part(int what) {
            switch (what) {
                case 0: return proto;
                case 1: return (int) src;
                case 2: return (int) dst;
                case 3: return (int) sport;
                case 4: return (int) dport;
                case 5: return phase;
                case 6: return answered ? 1 : 0;
                case 7: return firstFin;
                default: return due;
            }
        }
    }

    /** The phases of a TCP connection, and what a packet does to them. */
    private static final class Phases {
        static final int SENT = 1;
        static final int CLOSING = 4;
        static final int LAST = 5;
        static final int CLOSED = 7;

        static final int ORIGIN = 1;
        static final int ANSWER = 2;

        private static final int SIGNS = 6;
        private static final int R = 0;
        private static final int S = 1;
        private static final int B = 2;
        private static final int F = 3;
        private static final int A = 4;
        private static final int N = 5;

        // Two rows a phase: the origin's and the answer's; of 4 and 5, whose FIN came first and the
        // other's. 0 stands for what may not come.
        private static final int[] BEHIND = {
            // R S  B  F  A  N
            0, 1, 0, 0, 0, 0,
            7, 0, 2, 0, 0, 0,
            7, 2, 0, 4, 3, 0,
            7, 0, 2, 0, 0, 0,
            7, 0, 0, 4, 3, 0,
            7, 0, 0, 4, 3, 0,
            7, 0, 0, 4, 4, 0,
            7, 0, 0, 5, 4, 0,
            7, 0, 0, 5, 6, 0,
            7, 0, 0, 5, 5, 0,
            7, 1, 0, 6, 6, 0,
            7, 0, 0, 6, 6, 0,
            7, 1, 0, 0, 0, 0,
            7, 0, 0, 0, 0, 0
        };
        private static final int[] LIFETIMES = {120, 60, 3600, 120, 30, 120, 10};

        static int lifetime(int phase) {
            return phase >= SENT && phase <= CLOSED ? LIFETIMES[phase - SENT] : 0;
        }

        /** The phase behind a packet; NONE, where it may not come. */
        static int behind(int phase, int flags, int side, int firstFin) {
            if (phase < SENT || phase > CLOSED) {
                return NONE;
            }
            int upper = phase == CLOSING || phase == LAST ? firstFin : ORIGIN;
            int row = 2 * (phase - SENT) + (side == upper ? 0 : 1);
            int behind = BEHIND[row * SIGNS + signOf(flags)];
            return behind == 0 ? NONE : behind;
        }

        private static int signOf(int flags) {
            if ((flags & RST) != 0) {
                return R;
            }
            if ((flags & SYN) != 0) {
                return (flags & ACK) != 0 ? B : S;
            }
            if ((flags & FIN) != 0) {
                return F;
            }
            return (flags & ACK) != 0 ? A : N;
        }
    }

    /** The connections, from the oldest on, and the time. */
    private static final class Table {
        private static final int MOST_ROOM = 64;
        private static final int FIRST_ROOM = 8;
        private static final int LAST_TIME = 1000000000;

        final Connection[] row;
        int size;
        int most;
        int time;
        int pushedOut;
        int refused;

        Table() {
            row = new Connection[MOST_ROOM];
            for (int k = 0; k < MOST_ROOM; k++) {
                row[k] = new Connection();
            }
            size = 0;
            most = FIRST_ROOM;
            time = 0;
            pushedOut = 0;
            refused = 0;
        }

        Connection at(int k) {
            return row[k >= 0 && k < MOST_ROOM ? k : 0];
        }

        boolean setTime(int newTime) {
            if (newTime < time || newTime > LAST_TIME) {
                return false;
            }
            time = newTime;
            for (int k = size - 1; k >= 0; k--) {
                if (at(k).due <= time) {
                    remove(k);
                }
            }
            return true;
        }

        boolean setRoom(int n) {
            if (n < 1 || n > MOST_ROOM) {
                return false;
            }
            most = n;
            size = 0;
            return true;
        }

        int placeOf(Packet p) {
            for (int k = 0; k < size && k < MOST_ROOM; k++) {
                if (row[k].sideOf(p) != 0) {
                    return k;
                }
            }
            return NONE;
        }

        /** The state of a packet that is of the connection at a place, or of none. */
        int stateOf(Packet p, int place) {
            if (place == NONE) {
                return mayBegin(p) ? NEW : INVALID;
            }
            Connection c = at(place);
            int side = c.sideOf(p);
            int behind = c.phaseBehind(p, side);
            if (behind == NONE) {
                return INVALID;
            }
            // Where a connection begins again, it is as if nothing had been answered.
            if (behind == Phases.SENT) {
                return NEW;
            }
            return c.answered || side == Phases.ANSWER ? ESTABLISHED : NEW;
        }

        void step(Packet p, int place) {
            Connection c = at(place);
            c.step(p, c.sideOf(p));
            c.due = time + c.lifetime();
        }

        /** False, if there is no room, and none can be made. */
        boolean begin(Packet p) {
            if (size >= most) {
                int place = leastNeeded();
                if (place == NONE) {
                    refused++;
                    return false;
                }
                remove(place);
                pushedOut++;
            }
            Connection c = at(size);
            c.begin(p);
            c.due = time + c.lifetime();
            size++;
            return true;
        }

        private static boolean mayBegin(Packet p) {
            if (p.isOf(TCP)) {
                return (p.flags & (SYN | FIN | RST | ACK)) == SYN;
            }
            return !p.isOf(ICMP) || p.icmpType() == 8;
        }

        private int leastNeeded() {
            int place = NONE;
            for (int k = 0; k < size && k < MOST_ROOM; k++) {
                if (!row[k].answered && (place == NONE || row[k].due < at(place).due)) {
                    place = k;
                }
            }
            return place;
        }

        /** The row of what goes is kept behind the others, to be used again. */
        private void remove(int place) {
            if (place < 0 || place >= size) {
                return;
            }
            Connection gone = at(place);
            for (int k = place; k + 1 < size && k + 1 < MOST_ROOM; k++) {
                row[k] = row[k + 1];
            }
            size--;
            if (size < MOST_ROOM) {
                row[size] = gone;
            }
        }
    }

    /** Datagrams: what is wrong with one, what it tells, and how one is written. */
    private static final class Wire {
        private static final int HEADER = 20;
        private static final int SUM = 65535;

        static int faultOf(Octets d) {
            if (d.size < HEADER) {
                return 1;
            }
            if (!isFirst(d.at(0))) {
                return 2;
            }
            int t = headerOf(d.at(0));
            if (d.pair(2) != d.size || d.size < t) {
                return 3;
            }
            if (sum(d, 0, t, 0) != SUM) {
                return 4;
            }
            if ((d.at(6) & 63) != 0 || d.at(7) != 0) {
                return 5;
            }
            if (!isWhole(d, t)) {
                return 6;
            }
            return isSummed(d, t) ? 0 : 7;
        }

        static int placeOf(int fault, Octets d) {
            int t = headerOf(d.at(0));
            switch (fault) {
                case 1: return d.size;
                case 3: return 2;
                case 4: return 10;
                case 5: return 6;
                case 6: return t;
                case 7: return t + sumPlace(d.at(9));
                default: return 0;
            }
        }

        /** The packet whose header begins at a place, its way in and its flags aside. */
        static void readPacket(Octets d, int place, Packet p) {
            int proto = d.at(place + 9);
            int t = place + headerOf(d.at(place));
            p.field[IN] = 0;
            p.field[PROTO] = proto;
            p.field[SRC] = d.quad(place + 12);
            p.field[DST] = d.quad(place + 16);
            p.field[SPORT] = hasBody(proto) ? d.pair(t) : 0;
            p.field[DPORT] = 0;
            p.flags = 0;
            if (proto == TCP || proto == UDP) {
                p.field[DPORT] = d.pair(t + 2);
            } else if (proto == ICMP && p.isEcho()) {
                p.field[DPORT] = d.pair(t + 4);
            }
        }

        static int flagsOf(Octets d) {
            return d.at(9) == TCP ? d.at(headerOf(d.at(0)) + 13) & 63 : 0;
        }

        /** Whether a datagram tells of a packet, which is read then. */
        static boolean tellsOf(Octets d, Packet told) {
            int t = headerOf(d.at(0));
            if (d.at(9) != ICMP || !isReport(d.at(t))) {
                return false;
            }
            int inner = t + 8;
            int left = d.size - inner;
            if (left < HEADER + 8 || !isFirst(d.at(inner)) || left < headerOf(d.at(inner)) + 8) {
                return false;
            }
            readPacket(d, inner, told);
            return true;
        }

        static void put(Packet p, Octets out) {
            int proto = (int) p.field[PROTO];
            int body = proto == TCP ? 20 : hasBody(proto) ? 8 : 0;
            out.addPair(69 * 256);
            out.addPair(HEADER + body);
            out.addQuad(0);
            out.addPair(64 * 256 + proto);
            out.addPair(0);
            out.addQuad((int) p.field[SRC]);
            out.addQuad((int) p.field[DST]);
            out.setPair(10, SUM - sum(out, 0, HEADER, 0));
            if (body > 0) {
                putBody(p, proto, out);
                int check = SUM - sum(out, HEADER, out.size, seed(out, HEADER));
                out.setPair(HEADER + sumPlace(proto), proto == UDP && check == 0 ? SUM : check);
            }
        }

        private static void putBody(Packet p, int proto, Octets out) {
            int sport = (int) p.field[SPORT];
            int dport = (int) p.field[DPORT];
            out.addPair(sport);
            switch (proto) {
                case TCP:
                    out.addPair(dport);
                    out.addQuad(0);
                    out.addQuad(0);
                    out.addPair(5 * 4096 + p.flags);
                    out.addPair(0);
                    out.addQuad(0);
                    break;
                case UDP:
                    out.addPair(dport);
                    out.addPair(8);
                    out.addPair(0);
                    break;
                default:
                    out.addPair(0);
                    out.addPair(p.isEcho() ? dport : 0);
                    out.addPair(0);
                    break;
            }
        }

        private static boolean isFirst(int octet) {
            return octet >= 69 && octet <= 79;
        }

        private static int headerOf(int firstOctet) {
            return (firstOctet & 15) * 4;
        }

        private static boolean hasBody(int proto) {
            return proto == TCP || proto == UDP || proto == ICMP;
        }

        private static boolean isReport(int type) {
            return type == 3 || type == 4 || type == 5 || type == 11 || type == 12;
        }

        private static int sumPlace(int proto) {
            return proto == TCP ? 16 : proto == UDP ? 6 : 2;
        }

        private static boolean isWhole(Octets d, int t) {
            int left = d.size - t;
            switch (d.at(9)) {
                case TCP:
                    int rows = d.at(t + 12) >> 4;
                    return left >= 20 && rows >= 5 && rows * 4 <= left;
                case UDP:
                    return left >= 8 && d.pair(t + 4) == left;
                case ICMP:
                    return left >= 8;
                default:
                    return true;
            }
        }

        private static boolean isSummed(Octets d, int t) {
            int proto = d.at(9);
            if (!hasBody(proto) || proto == UDP && d.pair(t + 6) == 0) {
                return true;
            }
            return sum(d, t, d.size, seed(d, t)) == SUM;
        }

        /** What the sum of a body begins with: of TCP and UDP the ends, the protocol and the length. */
        private static int seed(Octets d, int t) {
            int proto = d.at(9);
            if (proto != TCP && proto != UDP) {
                return 0;
            }
            return d.pair(12) + d.pair(14) + d.pair(16) + d.pair(18) + proto + d.size - t;
        }

        private static int sum(Octets d, int from, int to, int seed) {
            int all = seed;
            for (int k = from; k < to; k += 2) {
                all += d.at(k) * 256 + (k + 1 < to ? d.at(k + 1) : 0);
            }
            // At most some 1100 rows are summed, so two times bring all carries in.
            int once = (all & SUM) + (all >>> 16);
            return (once & SUM) + (once >>> 16);
        }
    }
}
