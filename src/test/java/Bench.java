/** One house under test: writes messages with their check digits, reads whole answers, counts what is not as due. */
final class Bench {
    static final int MOST_CALLS = 512;
    private static int wrong = 0;

    final SettlementHouse house = new SettlementHouse();
    private final String name;
    private final int mostCalls;
    private int calls = 0;
    private int references = 0;

    Bench(String name) {
        this(name, MOST_CALLS);
    }

    private Bench(String name, int mostCalls) {
        this.name = name;
        this.mostCalls = mostCalls;
    }

    /** A bench whose run may be longer than the document speaks of. */
    static Bench endless(String name) {
        return new Bench(name, Integer.MAX_VALUE);
    }

    /** Ends a test's main. */
    static void finish() {
        System.out.println(wrong == 0 ? "all answers are as due" : wrong + " answers are not as due");
        if (wrong != 0) {
            System.exit(1);
        }
    }

    static void due(String what, Object got, Object want) {
        if (!got.equals(want)) {
            wrong++;
            System.out.println(what + " answered " + show(got) + ", due is " + show(want));
        }
    }

    private static String show(Object o) {
        return o.toString().replace("\n", "|");
    }

    /** The text with the two check digits that make it leave 1. */
    static String signed(String body) {
        int rest = rest(body + "00");
        int check = (98 - rest) % 97;
        return body + (char) ('0' + check / 10) + (char) ('0' + check % 10);
    }

    static int rest(String text) {
        StringBuilder digits = new StringBuilder();
        for (char c : text.toCharArray()) {
            digits.append(Character.getNumericValue(c));
        }
        return new java.math.BigInteger(digits.toString()).mod(java.math.BigInteger.valueOf(97)).intValue();
    }

    static String amount(long n) {
        return String.format("%015d", n);
    }

    static String leg(String from, String to, String asset, long n) {
        return from + to + asset + amount(n);
    }

    private void call() {
        calls++;
        if (calls > mostCalls) {
            due(name + ": more calls than the document speaks of", calls, mostCalls);
        }
    }

    /** An eight byte reference that this bench has not used. */
    String fresh() {
        references++;
        return String.format("T%07d", references);
    }

    boolean feed(int a, int b, int c, int d, int e) {
        call();
        return house.feed(a, b, c, d, e);
    }

    void feedText(String text) {
        byte[] bytes = new byte[(text.length() + 19) / 20 * 20];
        for (int i = 0; i < text.length(); i++) {
            bytes[i] = (byte) text.charAt(i);
        }
        java.nio.ByteBuffer words = java.nio.ByteBuffer.wrap(bytes);
        while (words.hasRemaining()) {
            due(name + ": feed", feed(words.getInt(), words.getInt(), words.getInt(), words.getInt(), words.getInt()), true);
        }
    }

    int send(int n) {
        call();
        return house.send(n);
    }

    int tick(int n) {
        call();
        return house.tick(n);
    }

    long fetch() {
        call();
        return house.fetch();
    }

    boolean charge(int n) {
        call();
        return house.charge(n);
    }

    int start() {
        call();
        return house.start();
    }

    long position(int p, int a) {
        call();
        return house.position(p, a);
    }

    int count(int what) {
        call();
        return house.count(what);
    }

    int broken() {
        call();
        return house.broken();
    }

    /** All that is there to fetch; stops at the first word that is not full, as no more can be behind it. */
    String answer() {
        StringBuilder text = new StringBuilder();
        int many = 7;
        while (many == 7) {
            long word = fetch();
            many = (int) (word >>> 56);
            for (int i = 0; i < many; i++) {
                text.append((char) (word >>> (48 - 8 * i) & 255));
            }
        }
        return text.toString();
    }

    /** Sends exactly these bytes. */
    int post(String text) {
        feedText(text);
        return send(text.length());
    }

    String ask(String text) {
        due(name + ": send of " + text, post(text), 1);
        return answer();
    }

    /** kind, sender and a fresh reference before the fields, check digits behind. */
    String write(String kind, String sender, String fields) {
        return signed(kind + sender + fresh() + fields);
    }

    /** The answer to a message of a fresh reference must be this ('|' stands for the end of a line). */
    void say(String kind, String sender, String fields, String want) {
        String text = write(kind, sender, fields);
        due(name + ": " + text, ask(text), want.replace('|', '\n'));
    }

    /** The answer to a message of that reference must be this. */
    void sayAs(String kind, String sender, String reference, String fields, String want) {
        String text = signed(kind + sender + reference + fields);
        due(name + ": " + text, ask(text), want.replace('|', '\n'));
    }

    /** Costs the calls that it takes to send, and none to fetch. */
    void quietly(String kind, String sender, String fields) {
        String text = write(kind, sender, fields);
        due(name + ": send of " + text, post(text), 1);
    }

    void pass(int n, String want) {
        due(name + ": tick(" + n + ")", tick(n), 1);
        due(name + ": lines of tick(" + n + ")", answer(), want.replace('|', '\n'));
    }

    void counts(int what, int want) {
        due(name + ": count(" + what + ")", count(what), want);
    }

    void holds(int p, int a, long want) {
        due(name + ": position(" + p + ", " + a + ")", position(p, a), want);
    }

    void is(String what, Object got, Object want) {
        due(name + ": " + what, got, want);
    }

    /** What count and position tell of a house of at most five participants and three assets; costs 25 calls. */
    String state() {
        StringBuilder text = new StringBuilder();
        for (int what = 0; what <= 9; what++) {
            text.append(count(what)).append(' ');
        }
        for (int p = 0; p < 5; p++) {
            for (int a = 0; a < 3; a++) {
                text.append(position(p, a)).append(' ');
            }
        }
        return text.toString();
    }

    /** EUR (0, the first currency), USD (1), BND (2, a security at 100 less 10 of 100), AAAA .. DDDD (1 .. 4). */
    static Bench ready(String name) {
        return furnish(new Bench(name));
    }

    static Bench furnish(Bench b) {
        b.quietly("AST", "CBNK", "EURC" + amount(0) + "00");
        b.quietly("AST", "CBNK", "USDC" + amount(0) + "00");
        b.quietly("AST", "CBNK", "BNDS" + amount(100) + "10");
        for (String code : new String[] {"AAAA", "BBBB", "CCCC", "DDDD"}) {
            b.quietly("NEW", "CBNK", code);
        }
        return b;
    }

    /** The same, in the phase OPEN. */
    static Bench open(String name) {
        return at(name, 100);
    }

    /** The same, at that tick of the first day. */
    static Bench at(String name, int tick) {
        Bench b = ready(name);
        if (tick > 0) {
            b.tick(tick);
        }
        return b;
    }

    void issue(String asset, String to, long n) {
        quietly("ISS", "CBNK", asset + to + amount(n));
    }
}
