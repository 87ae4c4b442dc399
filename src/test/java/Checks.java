import java.nio.charset.StandardCharsets;

/** What the tests share: comparing answers, and feeding and reading texts and bytes. */
final class Checks {
    /** A call whose answer or exception is looked at; a boolean counts 1 or 0. */
    interface Call {
        long make();
    }

    // One cause can make many answers wrong: the first ones tell it.
    private static final int MOST_LINES = 50;

    private int wrong = 0;
    private int made = 0;
    private int sentences = 0;
    private String sentence = "";

    /** The words of the document, by their section, that the answers from here on are held against; .. is a gap. */
    void sentence(String section, String words) {
        sentences++;
        sentence = section + ": " + words;
    }

    /** The same, where several tests hold one sentence, each in one respect. */
    void sentence(String section, String words, String aspect) {
        sentence(section, words);
        sentence += " - " + aspect;
    }

    private void complain(String line) {
        wrong++;
        if (wrong <= MOST_LINES) {
            System.out.println(line + (sentence.isEmpty() ? "" : " [" + sentence + "]"));
        }
    }

    void same(String what, long got, long due) {
        made++;
        if (got != due) {
            complain(what + ": answered " + got + ", due is " + due);
        }
    }

    void same(String what, boolean got, boolean due) {
        same(what, got ? 1 : 0, due ? 1 : 0);
    }

    void same(String what, String got, String due) {
        made++;
        if (!got.equals(due)) {
            complain(what + ": answered <" + got + ">, due is <" + due + ">");
        }
    }

    void refused(String what, Class<? extends RuntimeException> due, Call call) {
        made++;
        String got = "no exception";
        try {
            call.make();
        } catch (RuntimeException thrown) {
            got = thrown.getClass().getName();
        }
        if (!got.equals(due.getName())) {
            complain(what + ": " + got + ", due is " + due.getName());
        }
    }

    void end() {
        String held = sentences == 0 ? "" : sentences + " sentences, ";
        System.out.println(held + made + " answers looked at, " + wrong + " of them wrong");
        if (wrong != 0) {
            System.exit(1);
        }
    }

    static byte[] octets(String text) {
        return text.getBytes(StandardCharsets.ISO_8859_1);
    }

    /** Puts bytes behind the tape. */
    static void feed(GateHouse gate, byte[] bytes) {
        int before = gate.count(0);
        for (int k = 0; k < bytes.length; k += 20) {
            int[] words = new int[5];
            for (int j = 0; j < 20; j++) {
                int octet = k + j < bytes.length ? bytes[k + j] & 255 : 0;
                words[j / 4] = words[j / 4] << 8 | octet;
            }
            gate.feed(words[0], words[1], words[2], words[3], words[4]);
        }
        gate.end(before + bytes.length);
    }

    static int load(GateHouse gate, int list, String text) {
        feed(gate, octets(text));
        return gate.load(list);
    }

    static GateHouse gateWith(String text) {
        GateHouse gate = new GateHouse();
        load(gate, 0, text);
        return gate;
    }

    static byte[] out(GateHouse gate) {
        byte[] bytes = new byte[gate.count(1)];
        for (int k = 0; k < bytes.length; k++) {
            bytes[k] = (byte) gate.octet(k);
        }
        return bytes;
    }

    static String written(GateHouse gate, int list) {
        gate.write(list);
        return new String(out(gate), StandardCharsets.ISO_8859_1);
    }

    /** A list as it is written, where it is too long to be read from one gate by 512 calls. */
    static String writtenByMany(String text) {
        StringBuilder all = new StringBuilder();
        int length = gateWith(text).write(0);
        for (int from = 0; from < length; from += 300) {
            GateHouse gate = gateWith(text);
            gate.write(0);
            for (int k = from; k < from + 300 && k < length; k++) {
                all.append((char) gate.octet(k));
            }
        }
        return all.toString();
    }

    static String found(GateHouse gate) {
        StringBuilder all = new StringBuilder();
        for (int what = 0; what < 7; what++) {
            all.append(what == 0 ? "" : " ").append(Integer.toUnsignedString(gate.found(what)));
        }
        return all.toString();
    }

    /** The parts of a connection from a first one on to the last, blanks between. */
    static String connection(GateHouse gate, int i, int firstPart) {
        StringBuilder all = new StringBuilder();
        for (int what = firstPart; what <= 8; what++) {
            all.append(what == firstPart ? "" : " ").append(Integer.toUnsignedString(gate.connection(i, what)));
        }
        return all.toString();
    }
}
