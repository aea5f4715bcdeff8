/** The edges that the sections 'Promise 1' to 'Promise 10' name: a method for each sentence, which stands above it. */
public final class CallEdgesTest {
    private static final int[] ODD = {Integer.MIN_VALUE, Integer.MIN_VALUE + 1, -1000, -2, -1, 0, 1, 2, 7, 20, 21, 63, 64, 65, 255, 256, 257,
        399, 400, 401, 512, 999, 1000, 1001, 9999, 10000, 65536, Integer.MAX_VALUE - 1, Integer.MAX_VALUE};

    public static void main(String[] args) {
        aNewObject();
        twentyBytes();
        fullAt400();
        fedWhileDown();
        theFirstBytes();
        emptyInAnyCaseButRefused();
        sendRefused();
        ticksPass();
        tickRefused();
        atMostSeven();
        whatIsTaken();
        theLatestThatWasNotRefused();
        chargeRefused();
        theLatestCharge();
        startAnswers();
        theirOrder();
        noneSuch();
        everyWhat();
        whileItIsDown();
        neverBroken();
        oddArguments();
        Bench.finish();
    }

    private static String eur(String from, String to, long n) {
        return "11" + Bench.leg(from, to, "EUR", n);
    }

    /** Promise 1: "It is up; the first tick of a first day; the bank alone, no assets." */
    private static void aNewObject() {
        Bench b = new Bench("new");
        int[] want = {1, 0, 0, 1, 0, 0, 0, 0, 0, 0};
        for (int what = 0; what < want.length; what++) {
            b.counts(what, want[what]);
        }
        b.is("broken", b.broken(), 0);
        b.is("nothing to fetch", b.fetch(), 0L);
        b.is("nothing to send", b.send(1), 0);
        b.is("up", b.start(), 0);
        b.holds(0, 0, 0);
        b.say("NEW", "AAAA", "BBBB", "NO 02|");
        b.say("STM", "CBNK", "", "OK|");
        b.say("ISS", "CBNK", "EURCBNK" + Bench.amount(1), "NO 05|");
        // No charge is said: many blocks can be written.
        for (int i = 0; i < 50; i++) {
            b.is("tick", b.tick(1000), 1);
        }
    }

    /** Promise 2: "20 bytes come behind the tape, the highest of a first" */
    private static void twentyBytes() {
        String text = Bench.signed("STMCBNK12345678");
        // Each byte at each place of a word, and the words in their order: the same text behind 0 .. 3 feeds of zeros is none.
        Bench b = new Bench("twenty bytes");
        b.is("feed", b.feed(0x53544D43, 0x424E4B31, 0x32333435, 0x36373800 | text.charAt(15), text.charAt(16) << 24), true);
        b.is("send", b.send(17), 1);
        b.is("answer", b.answer(), "OK\n");
        b.is("feed", b.feed(0x53544D43, 0x424E4B31, 0x32333435, 0x36373800 | text.charAt(15), text.charAt(16)), true);
        b.is("send", b.send(17), 1);
        b.is("lowest byte", b.answer(), "NO 01\n");
        b.feed(0, 0, 0, 0, 0);
        b.feedText(text);
        b.counts(7, 40);
        b.is("send", b.send(17), 1);
        b.is("behind", b.answer(), "NO 01\n");
        // Bytes above 127 are bytes: none of a message.
        b.feed(-1, -1, -1, -1, -1);
        b.counts(7, 20);
        b.is("send", b.send(20), 1);
        b.is("answer", b.answer(), "NO 01\n");
    }

    /** Promise 2: "true ..; false if 400 are there" */
    private static void fullAt400() {
        Bench b = new Bench("full");
        String text = Bench.signed("STMCBNK12345678");
        b.feedText(text);
        for (int i = 2; i <= 20; i++) {
            b.is("feed " + i, b.feed(i, i, i, i, i), true);
            b.counts(7, 20 * i);
        }
        for (int i = 0; i < 3; i++) {
            b.is("full", b.feed(0, 0, 0, 0, 0), false);
            b.counts(7, 400);
        }
        // What was refused has changed nothing of it.
        b.is("send", b.send(17), 1);
        b.is("answer", b.answer(), "OK\n");
        b.counts(7, 0);
        b.is("empty again", b.feed(1, 1, 1, 1, 1), true);
    }

    /** Promise 2: "(also while the house is down)" */
    private static void fedWhileDown() {
        Bench b = new Bench("while down");
        String text = Bench.signed("STMCBNK12345678");
        b.charge(0);
        b.tick(1);
        b.feedText(text);
        for (int i = 2; i <= 20; i++) {
            b.is("feed " + i, b.feed(i, i, i, i, i), true);
        }
        b.is("full", b.feed(0, 0, 0, 0, 0), false);
        b.counts(7, 400);
        b.is("down", b.send(17), 0);
        b.counts(7, 400);
        b.start();
        b.counts(7, 400);
        b.is("up", b.send(17), 1);
        b.is("answer", b.answer(), "OK\n");
    }

    /** Promise 3: "The first n bytes of the tape are a message" */
    private static void theFirstBytes() {
        String text = Bench.signed("NEWCBNK00000001AAAA");
        for (int n = 1; n <= 40; n++) {
            Bench b = new Bench("first " + n);
            b.feedText(text);
            b.is("send", b.send(n), 1);
            b.is("answer", b.answer(), n == 21 ? "OK\n" : "NO 01\n");
            b.counts(3, n == 21 ? 2 : 1);
        }
        // Whatever stands behind them is no part of it.
        Bench b = new Bench("the rest");
        b.feedText(text + "anything else, to the end of the tape".repeat(11).substring(0, 379));
        b.counts(7, 400);
        b.is("send", b.send(21), 1);
        b.is("answer", b.answer(), "OK\n");
    }

    /** Promise 3: "the tape is empty then (in any case but 0): 1 it is answered, 2 the power went" */
    private static void emptyInAnyCaseButRefused() {
        Bench b = new Bench("empty");
        String[] bodies = {"NEWCBNK00000001AAAA", "NEWCBNK00000001AAAA", "NEWCBNK00000001BBBB", "STMCBNK00000002", "STMXXXX00000002"};
        String[] answers = {"OK\n", "OK AGAIN\n", "NO 06\n", "OK\n", "NO 02\n"};
        for (int i = 0; i < bodies.length; i++) {
            String text = Bench.signed(bodies[i]);
            b.feedText(text);
            b.feed(1, 2, 3, 4, 5);
            b.is("send", b.send(text.length()), 1);
            b.counts(7, 0);
            b.is("answer", b.answer(), answers[i]);
        }
        b.feed(1, 2, 3, 4, 5);
        b.is("one byte", b.send(1), 1);
        b.counts(7, 0);
        b.charge(0);
        String text = Bench.signed("NEWCBNK00000003CCCC");
        b.feedText(text);
        b.feed(1, 2, 3, 4, 5);
        b.is("the power went", b.send(21), 2);
        b.counts(7, 0);
        b.start();
        b.counts(7, 0);
    }

    /** Promise 3: "0, refused (the tape stays), if n is not 1 .. the bytes that there are, or the house is down" */
    private static void sendRefused() {
        for (int n : ODD) {
            Bench b = new Bench("send(" + n + ")");
            b.is("empty tape", b.send(n), 0);
            b.feedText(Bench.signed("STMCBNK12345678"));
            boolean right = n >= 1 && n <= 20;
            b.is("20 bytes", b.send(n), right ? 1 : 0);
            b.counts(7, right ? 0 : 20);
            if (!right) {
                b.is("the tape stays", b.send(17), 1);
                b.is("answer", b.answer(), "OK\n");
            }
            b.feedText(Bench.signed("STMCBNK12345678"));
            b.charge(0);
            b.tick(1);
            b.is("down", b.send(n), 0);
            b.counts(7, 20);
            b.start();
            b.is("the tape stays", b.send(17), 1);
            b.is("answer", b.answer(), "OK\n");
        }
        Bench full = new Bench("full");
        for (int i = 0; i < 20; i++) {
            full.feed(0, 0, 0, 0, 0);
        }
        full.is("401", full.send(401), 0);
        full.counts(7, 400);
        full.is("400", full.send(400), 1);
        full.counts(7, 0);
    }

    /** Promise 4: "n ticks pass: 1 it is answered, 2 the power went" */
    private static void ticksPass() {
        for (int n : new int[] {1, 2, 99, 100, 500, 999, 1000}) {
            Bench b = new Bench("tick(" + n + ")");
            b.is("tick", b.tick(n), 1);
            b.counts(1, n / 1000);
            b.counts(2, n % 1000);
            b.charge(0);
            b.is("the power went", b.tick(n), 2);
            b.is("down", b.tick(n), 0);
            b.start();
            b.counts(1, n / 1000);
            b.counts(2, n % 1000);
        }
    }

    /** Promise 4: "0, refused, if n is not 1 .. 1000, or the house is down" */
    private static void tickRefused() {
        for (int n : ODD) {
            if (n >= 1 && n <= 1000) {
                continue;
            }
            Bench b = new Bench("tick(" + n + ")");
            b.quietly("NEW", "CBNK", "AAAA");
            b.is("refused", b.tick(n), 0);
            b.counts(1, 0);
            b.counts(2, 0);
            b.counts(9, 1);
            b.is("the answer before stays", b.answer(), "OK\n");
            b.charge(0);
            b.tick(1);
            b.is("down", b.tick(n), 0);
        }
        Bench down = new Bench("down");
        down.charge(0);
        down.tick(1);
        for (int n : ODD) {
            down.is("tick(" + n + ")", down.tick(n), 0);
        }
        down.start();
        down.counts(2, 0);
        down.counts(9, 1);
    }

    /** Promise 5: "at most 7, which are taken: in the highest byte how many, then these, the first one highest; 0 if there are none" */
    private static void atMostSeven() {
        Bench b = Bench.open("at most 7");
        b.issue("EUR", "AAAA", 5);
        b.is("3 bytes", b.fetch(), 0x034F4B0A00000000L);
        b.is("none", b.fetch(), 0L);
        b.post(Bench.signed("UNLAAAA00000001BBBB"));
        b.is("6 bytes", b.fetch(), 0x064E4F2030380A00L);
        b.is("none", b.fetch(), 0L);
        b.post(Bench.signed("PAYAAAA00000001" + eur("BBBB", "AAAA", 1)));
        b.is("7 of 8", b.fetch(), 0x074F4B20434F4E46L);
        b.is("1 of 8", b.fetch(), 0x010A000000000000L);
        b.is("none", b.fetch(), 0L);
        b.post(Bench.signed("PAYAAAA00000001" + eur("BBBB", "AAAA", 1)));
        b.is("7 of 9", b.fetch(), 0x074F4B2041474149L);
        b.is("2 of 9", b.fetch(), 0x024E0A0000000000L);
        b.is("none", b.fetch(), 0L);
        // Words of 4 and 5 bytes, too.
        b.quietly("STM", "AAAA", "");
        b.is("OK and EUR", b.fetch(), 0x074F4B0A45555220L);
        b.is("0 0 5 5", b.fetch(), 0x0730203020352035L);
        b.is(" 1", b.fetch(), 0x0320310A00000000L);
        b.quietly("STM", "CBNK", "");
        b.is("OK and EUR", b.fetch(), 0x074F4B0A45555220L);
        b.is("0 5 0 -", b.fetch(), 0x073020352030202DL);
        b.is("5 1", b.fetch(), 0x043520310A000000L);
        b.is("none", b.fetch(), 0L);
        b.tick(800);
        b.is("7 of 14", b.fetch(), 0x0742414141413030L);
        b.is("14 of 14", b.fetch(), 0x073030303030310AL);
        b.is("none behind a full word", b.fetch(), 0L);
    }

    /** Promise 5: ".. which are taken": each byte is fetched once, whatever else is asked between */
    private static void whatIsTaken() {
        Bench b = Bench.open("taken");
        b.issue("EUR", "AAAA", 5);
        b.post(Bench.signed("PAYAAAA00000001" + eur("AAAA", "BBBB", 1)));
        b.is("first", b.fetch(), 0x074F4B20444F4E45L);
        b.feed(1, 2, 3, 4, 5);
        b.counts(7, 20);
        b.holds(1, 0, 4);
        b.charge(5);
        b.is("start", b.start(), 0);
        b.is("broken", b.broken(), 0);
        b.is("second", b.fetch(), 0x070A534141414130L);
        b.is("third", b.fetch(), 0x0730303030303031L);
        b.is("last", b.fetch(), 0x010A000000000000L);
        b.is("none", b.fetch(), 0L);
    }

    /** Promise 5: "The next bytes of the answer to the latest send() or tick() that was not refused (what was not fetched of others is gone)" */
    private static void theLatestThatWasNotRefused() {
        Bench b = new Bench("latest");
        b.quietly("NEW", "CBNK", "AAAA");
        b.quietly("NEW", "CBNK", "AAAA");
        b.is("NO 08 alone", b.answer(), "NO 08\n");
        b.quietly("NEW", "CBNK", "BBBB");
        for (int n : ODD) {
            if (n < 1 || n > 1000) {
                b.is("refused", b.tick(n) + b.send(n), 0);
            }
        }
        b.is("OK", b.answer(), "OK\n");
        b.quietly("NEW", "CBNK", "CCCC");
        b.tick(1);
        b.is("a tick without lines", b.fetch(), 0L);
        b.tick(99);
        b.quietly("STM", "AAAA", "");
        b.is("OK", b.answer(), "OK\n");
        b.quietly("STM", "AAAA", "");
        b.feed(1, 2, 3, 4, 5);
        b.is("no message", b.send(1), 1);
        b.is("NO 01 alone", b.answer(), "NO 01\n");
    }

    /** Promise 6: "n more blocks can be written: true; false if n is not 0 .. 9999" */
    private static void chargeRefused() {
        for (int n : ODD) {
            Bench b = new Bench("charge(" + n + ")");
            boolean right = n >= 0 && n <= 9999;
            b.is("charge", b.charge(n), right);
            b.is("tick", b.tick(1), n == 0 ? 2 : 1);
            b.charge(1);
            b.is("charge behind another", b.charge(n), right);
            b.counts(7, 0);
        }
        Bench b = new Bench("a refused charge");
        b.charge(1);
        b.is("too small", b.charge(-1), false);
        b.is("too large", b.charge(10000), false);
        b.is("the one before stays", b.tick(1), 1);
        b.is("the one before stays", b.tick(1), 2);
    }

    /** Promise 6: the latest charge counts, not the sum of two. */
    private static void theLatestCharge() {
        Bench b = new Bench("latest charge");
        b.charge(5);
        b.charge(1);
        b.is("one", b.tick(1), 1);
        b.charge(2);
        b.is("two", b.tick(1) + b.tick(1), 2);
        b.is("no more", b.tick(1), 2);
        b.counts(9, 3);
        b.charge(0);
        b.charge(3);
        b.is("start", b.start(), 1);
        b.is("two more", b.tick(1) + b.tick(1), 2);
        b.is("no more", b.tick(1), 2);
    }

    /** Promise 7: "One block is written, and the house is up: 1; 2 if the power went before; 0, refused, if it is up." */
    private static void startAnswers() {
        Bench b = new Bench("start");
        b.is("up", b.start(), 0);
        b.counts(9, 0);
        b.charge(0);
        b.is("up", b.start(), 0);
        b.counts(0, 1);
        b.tick(1);
        b.charge(0);
        b.is("the power went", b.start(), 2);
        b.counts(0, 0);
        b.counts(9, 0);
        b.charge(1);
        b.is("up", b.start(), 1);
        b.counts(0, 1);
        b.counts(9, 1);
        b.is("refused", b.start(), 0);
        b.counts(9, 1);
        b.is("that block was the one charged", b.tick(1), 2);
        b.is("up", b.start(), 1);
        b.counts(9, 2);
    }

    /** Promise 8: "The position of participant p (in the order in which they came, the bank 0) in asset a (likewise)" */
    private static void theirOrder() {
        Bench b = new Bench("order");
        String[] codes = {"ZZZZ", "0000", "MMMM"};
        String[] assets = {"ZZZ", "000", "MMM"};
        for (int i = 0; i < 3; i++) {
            b.quietly("NEW", "CBNK", codes[i]);
            b.quietly("AST", "CBNK", assets[i] + "C" + Bench.amount(0) + "00");
        }
        b.tick(100);
        for (int p = 0; p < 3; p++) {
            for (int a = 0; a < 3; a++) {
                b.issue(assets[a], codes[p], 10 * (p + 1) + a);
            }
        }
        for (int a = 0; a < 3; a++) {
            b.holds(0, a, -60 - 3 * a);
            for (int p = 0; p < 3; p++) {
                b.holds(p + 1, a, 10 * (p + 1) + a);
            }
        }
    }

    /** Promise 8: "0 if there is none such, or the house is down" */
    private static void noneSuch() {
        Bench b = Bench.open("none such");
        for (String asset : new String[] {"EUR", "USD", "BND"}) {
            for (String code : new String[] {"AAAA", "BBBB", "CCCC", "DDDD"}) {
                b.issue(asset, code, 7);
            }
        }
        for (int p : ODD) {
            for (int a : new int[] {0, 2, 3, -1, 63, 64, Integer.MIN_VALUE, Integer.MAX_VALUE}) {
                boolean there = p >= 0 && p <= 4 && (a == 0 || a == 2);
                b.holds(p, a, there ? p == 0 ? -28 : 7 : 0);
            }
        }
        Bench down = Bench.open("down");
        down.issue("EUR", "AAAA", 7);
        down.charge(0);
        down.tick(1);
        for (int p = -1; p <= 5; p++) {
            for (int a = -1; a <= 3; a++) {
                down.holds(p, a, 0);
            }
        }
        down.start();
        down.holds(1, 0, 7);
        down.holds(0, 0, -7);
    }

    private static Bench busy(String name) {
        Bench b = Bench.open(name);
        b.tick(1000);
        b.quietly("PAY", "AAAA", eur("AAAA", "BBBB", 5));
        b.quietly("PAY", "AAAA", eur("AAAA", "BBBB", 5));
        b.quietly("PAY", "AAAA", eur("BBBB", "AAAA", 5));
        b.tick(33);
        b.feed(0, 0, 0, 0, 0);
        return b;
    }

    /** Promise 9: "0 whether it is up .., 1 the day .., 9 blocks written in all, ever; -1 for another what" */
    private static void everyWhat() {
        Bench b = busy("every what");
        // Eight records and a tick of 1000 with two more blocks, three PAY and a tick.
        int[] want = {1, 1, 133, 5, 3, 2, 1, 20, 1, 15};
        for (int what = 0; what < want.length; what++) {
            b.counts(what, want[what]);
        }
        for (int what : ODD) {
            if (what < 0 || what > 9) {
                b.counts(what, -1);
            }
        }
        b.counts(10, -1);
    }

    /** Promise 9: "0 for 1 to 6 and 8 while it is down" */
    private static void whileItIsDown() {
        Bench b = busy("while it is down");
        b.charge(0);
        b.tick(1);
        int[] want = {0, 0, 0, 0, 0, 0, 0, 20, 0, 15};
        for (int what = 0; what < want.length; what++) {
            b.counts(what, want[what]);
        }
        b.counts(-1, -1);
        b.counts(10, -1);
        b.feed(1, 2, 3, 4, 5);
        b.counts(7, 40);
        b.start();
        int[] again = {1, 1, 133, 5, 3, 2, 1, 40, 1, 16};
        for (int what = 0; what < again.length; what++) {
            b.counts(what, again[what]);
        }
    }

    /** Promise 10: "(None in a right house; who keeps no such books answers 0.)" */
    private static void neverBroken() {
        Bench b = Bench.open("broken");
        b.is("at first", b.broken(), 0);
        b.issue("BND", "AAAA", 1);
        b.quietly("PLG", "AAAA", "BND" + Bench.amount(1));
        b.quietly("PAY", "AAAA", eur("AAAA", "BBBB", 90));
        b.is("at its floor", b.broken(), 0);
        b.quietly("PAY", "AAAA", eur("AAAA", "CCCC", 5));
        b.quietly("PAY", "CCCC", eur("CCCC", "AAAA", 5));
        b.quietly("RES", "CBNK", "");
        b.is("behind a set", b.broken(), 0);
        b.is("told", b.answer(), "OK\nSAAAAT0000011\nSCCCCT0000012\n");
        b.tick(1000);
        b.is("behind a day", b.broken(), 0);
        b.charge(0);
        b.tick(1);
        b.is("down", b.broken(), 0);
    }

    /** No call throws, whatever it is given, in a new house, a busy one, one with a full tape and one that is down. */
    private static void oddArguments() {
        for (int state = 0; state < 4; state++) {
            Bench b = state == 0 ? new Bench("odd, new") : busy("odd " + state);
            if (state == 2) {
                for (int i = 0; i < 19; i++) {
                    b.feed(i, i, i, i, i);
                }
            }
            if (state == 3) {
                b.charge(0);
                b.tick(1);
            }
            for (int n : ODD) {
                b.feed(n, ~n, n, n >>> 1, n << 1);
                b.fetch();
                b.count(n);
                b.position(n, n);
                b.position(1, n);
                b.position(n, 1);
                b.send(n);
                b.tick(n);
                b.charge(n);
                b.start();
                b.broken();
            }
            b.is("still 0", b.broken(), 0);
        }
    }
}
