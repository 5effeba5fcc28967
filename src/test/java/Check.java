/** Counts the answers that are not as due, prints each, and feeds texts. */
final class Check {
    private final String name;
    private int wrong;
    private int asked;

    Check(String name) {
        this.name = name;
    }

    void due(String what, long got, long want) {
        asked++;
        if (got != want) {
            wrong++;
            System.out.println(name + ": " + what + " answered " + got + ", due is " + want);
        }
    }

    void due(String what, boolean got, boolean want) {
        due(what, got ? 1 : 0, want ? 1 : 0);
    }

    void finish() {
        System.out.println(name + ": " + asked + " answers looked at, " + wrong + " wrong");
        if (wrong != 0) {
            System.exit(1);
        }
    }

    static int fourBytes(String text, int at) {
        int four = 0;
        for (int i = at; i < at + 4; i++) {
            four = four << 8 | (i < text.length() ? text.charAt(i) & 255 : 32);
        }
        return four;
    }

    /** Lays a text of at most 400 signs on the tape, which must be empty. */
    static void lay(Counted x, String text) {
        for (int at = 0; at < text.length(); at += 20) {
            x.feed(fourBytes(text, at), fourBytes(text, at + 4), fourBytes(text, at + 8), fourBytes(text, at + 12),
                    fourBytes(text, at + 16));
        }
        x.end(text.length());
    }

    static Counted made(String text) {
        Counted x = new Counted();
        lay(x, text);
        if (x.keepers() == LogKeepers.NONE) {
            throw new IllegalStateException(text);
        }
        return x;
    }

    static Counted made(int voters) {
        StringBuilder text = new StringBuilder();
        for (int i = 0; i < voters; i++) {
            text.append("keeper ").append((char) ('a' + i)).append(';');
        }
        return made(text.toString());
    }

    /** Delivers what is in the least full slots until nothing is left. */
    static void deliverAll(Counted x) {
        for (int round = 0; round < 1000 && x.about(3) > 0; round++) {
            for (int slot = 0; slot < 40; slot++) {
                if (x.slot(slot, 0) != LogKeepers.NONE) {
                    x.deliver(slot);
                    break;
                }
            }
        }
    }

    /** Keepers of which the first one leads in term 1, with an empty post. */
    static Counted led(int voters) {
        Counted x = made(voters);
        x.ask(0);
        deliverAll(x);
        return x;
    }

    /** One append and its answer; the post must be empty. */
    static void pass(Counted x, int from, int to) {
        int slot = x.append(from, to);
        x.deliver(slot);
        x.deliver(slot);
    }
}
