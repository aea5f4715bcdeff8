/** The edges of the document's POWER: a method for each sentence, which stands above it. */
public final class PowerEdgesTest {
    private static final String NIL = Bench.amount(0);
    private static final String ONE = Bench.amount(1);
    private static final int BLOCK = 500;
    private static final int TICK = 8;
    private static final int NEW = 25;

    public static void main(String[] args) {
        whatIsARecord();
        whatIsNoRecord();
        howLongARecordIs();
        toTheLastByteOfABlock();
        overTheEdgeOfABlock();
        notWrittenWhole();
        onlyIfADayBegan();
        participantsOfASnapshot();
        assetsOfASnapshot();
        amountsOfASnapshot();
        oneOfEachAmount();
        snapshotOfThreeBlocks();
        theJournalBeginsAnew();
        theJournalGoesOn();
        soManyAndNoMore();
        theAnswerIsGone();
        whatWasNotFetchedIsGone();
        theChargeIsGone();
        aChargeWhileDown();
        asBeforeTheCall();
        asBehindTheCall();
        oneBlockToStart();
        downStill();
        blocksOfTheJournal();
        everyCutOfADay();
        Bench.finish();
    }

    private static String eur(String from, String to, long n) {
        return "11" + Bench.leg(from, to, "EUR", n);
    }

    /** A right message of each kind that is a record, for a house of these. */
    private static final String[] RECORDS = {"NEWCBNK EEEE", "ASTCBNK GBPC" + NIL + "00", "PRCCBNK BND" + ONE + "00",
        "ISSCBNK EURAAAA" + ONE, "REDCBNK USDAAAA" + ONE, "PAYAAAA 11" + Bench.leg("AAAA", "BBBB", "EUR", 1),
        "PAYAAAA 12" + Bench.leg("AAAA", "BBBB", "EUR", 1).repeat(2), "PAYAAAA 13" + Bench.leg("AAAA", "BBBB", "EUR", 1).repeat(3),
        "PAYAAAA 14" + Bench.leg("AAAA", "BBBB", "EUR", 1).repeat(4), "CNFBBBB AAAAASKED000", "CANAAAA WAITS000",
        "PRIAAAA WAITS0009", "LIMAAAA CCCC" + ONE, "UNLAAAA DDDD", "PLGAAAA BND" + ONE, "UNPAAAA BND" + ONE, "RESCBNK "};

    /** On its second day, in OPEN, with a journal of one tick and two PAY of 49 bytes. */
    private static Bench withEverything(String name) {
        Bench b = Bench.open(name);
        b.issue("BND", "AAAA", 10);
        b.issue("USD", "AAAA", 10);
        b.quietly("PLG", "AAAA", "BND" + Bench.amount(5));
        b.quietly("LIM", "AAAA", "DDDD" + ONE);
        b.tick(900);
        b.tick(100);
        b.post(Bench.signed("PAYAAAAASKED000" + eur("BBBB", "AAAA", 1)));
        b.post(Bench.signed("PAYAAAAWAITS000" + eur("AAAA", "CCCC", 999)));
        return b;
    }

    /** "Each message that is answered OK .. and each call of tick(), is a RECORD" */
    private static void whatIsARecord() {
        for (String record : RECORDS) {
            Bench b = withEverything(record);
            int written = b.count(9);
            String text = Bench.signed(record.replace(" ", "REF00001"));
            b.is("OK", b.ask(text).substring(0, 2), "OK");
            b.counts(9, written + 1);
            // Without a block to write it on it is not answered.
            Bench cut = withEverything(record);
            cut.charge(0);
            cut.is("the power went", cut.post(text), 2);
            cut.counts(9, written);
            cut.counts(0, 0);
        }
        Bench b = new Bench("ticks");
        b.tick(1);
        b.counts(9, 1);
        b.tick(998);
        b.counts(9, 2);
    }

    /** ".. but not OK AGAIN, and no STM": nor what is refused; for these a charge of 0 is enough */
    private static void whatIsNoRecord() {
        Bench b = withEverything("no record");
        String again = Bench.signed("LIMAAAAREF00001CCCC" + ONE);
        b.is("OK", b.ask(again), "OK\n");
        int written = b.count(9);
        int journal = b.count(8);
        b.charge(0);
        b.is("again", b.ask(again), "OK AGAIN\n");
        b.say("STM", "AAAA", "", "OK|USD 10 0 0 10 0|BND 10 0 0 10 0|");
        b.say("STM", "CBNK", "", "OK|USD -10 0 0 -10 0|BND -10 0 0 -10 0|");
        for (String record : RECORDS) {
            String text = Bench.signed(record.replace(" ", "REF00001") + "0");
            b.is("01", b.ask(text), "NO 01\n");
        }
        b.say("STM", "ZZZZ", "", "NO 02|");
        b.say("RES", "AAAA", "", "NO 03|");
        b.say("UNL", "AAAA", "ZZZZ", "NO 04|");
        b.say("PLG", "AAAA", "ZZZ" + ONE, "NO 05|");
        b.sayAs("UNL", "AAAA", "REF00001", "CCCC", "NO 06|");
        b.say("UNL", "AAAA", "BBBB", "NO 08|");
        b.say("RED", "CBNK", "EURAAAA" + Bench.amount(451), "NO 09|");
        b.say("CAN", "AAAA", "NOTHING0", "NO 11|");
        b.is("refused calls", b.tick(0) + b.tick(1001) + b.send(1) + b.start(), 0);
        b.counts(0, 1);
        b.counts(9, written);
        b.counts(8, journal);
        b.is("the charge is still there", b.tick(1), 2);
    }

    /** Fills a journal of so many bytes with NEW and ticks to exactly that many; by how many records. */
    private static int fillTo(Bench b, int bytes, int to) {
        int left = to - bytes;
        for (int news = 0; news * NEW <= left; news++) {
            if ((left - news * NEW) % TICK == 0) {
                for (int i = 0; i < news; i++) {
                    b.quietly("NEW", "CBNK", "F" + (100 + b.count(3)));
                }
                int ticks = (left - news * NEW) / TICK;
                for (int i = 0; i < ticks; i++) {
                    b.tick(1);
                }
                return news + ticks;
            }
        }
        b.is("can be filled", false, true);
        return 0;
    }

    /** "4 bytes, and those of the message (4 for a tick)", "500 bytes in each" */
    private static void howLongARecordIs() {
        for (String record : RECORDS) {
            Bench b = withEverything(record);
            String text = Bench.signed(record.replace(" ", "REF00001"));
            b.is("OK", b.ask(text).substring(0, 2), "OK");
            // A tick and two PAY of 45 bytes are there before it.
            fillTo(b, TICK + 2 * 49 + 4 + text.length(), BLOCK);
            b.counts(8, 1);
            int written = b.count(9);
            b.tick(1);
            b.counts(8, 2);
            b.counts(9, written + 1);
        }
    }

    /** "Records lie in blocks of the JOURNAL, one behind the other, 500 bytes in each, from its beginning on." */
    private static void toTheLastByteOfABlock() {
        Bench b = new Bench("to the last byte");
        int records = fillTo(b, 0, BLOCK);
        b.counts(8, 1);
        b.counts(9, records);
        records += fillTo(b, 0, BLOCK);
        b.counts(8, 2);
        b.counts(9, records);
        b.tick(1);
        b.counts(8, 3);
        b.counts(9, records + 1);
    }

    /** "When a record has been made, the blocks in which it lies are written, one after the other" */
    private static void overTheEdgeOfABlock() {
        // So many bytes of a NEW of 25 lie in the second block.
        for (int over = 1; over <= NEW - 1; over++) {
            Bench b = new Bench("over by " + over);
            fillTo(b, 0, BLOCK - NEW + over);
            b.counts(8, 1);
            int written = b.count(9);
            b.charge(2);
            b.say("NEW", "CBNK", "LAST", "OK|");
            b.counts(8, 2);
            b.counts(9, written + 2);
            b.is("both were charged", b.tick(1), 2);
        }
        Bench tick = new Bench("a tick over the edge");
        fillTo(tick, 0, BLOCK - 1);
        int written = tick.count(9);
        tick.tick(1);
        tick.counts(8, 2);
        tick.counts(9, written + 2);
        Bench under = new Bench("a tick to the edge");
        fillTo(under, 0, BLOCK - TICK);
        written = under.count(9);
        under.tick(1);
        under.counts(8, 1);
        under.counts(9, written + 1);
    }

    /** "(One that is not written whole has no place: the next one lies there.)" */
    private static void notWrittenWhole() {
        for (int charge = 0; charge <= 1; charge++) {
            Bench b = new Bench("not whole " + charge);
            fillTo(b, 0, BLOCK - TICK);
            int written = b.count(9);
            int there = b.count(3);
            b.charge(charge);
            b.is("the power went", b.post(Bench.signed("NEWCBNKREF00001LAST")), 2);
            b.counts(9, written + charge);
            b.start();
            b.counts(8, 1);
            b.counts(3, there);
            // A tick fits where it did not.
            b.tick(1);
            b.counts(8, 1);
            b.counts(9, written + charge + 2);
            b.tick(1);
            b.counts(8, 2);
        }
        Bench tick = new Bench("a tick not whole");
        fillTo(tick, 0, BLOCK - 1);
        int at = tick.count(2);
        tick.charge(1);
        tick.is("the power went", tick.tick(1), 2);
        tick.start();
        tick.counts(2, at);
        tick.counts(8, 1);
        tick.tick(1);
        tick.counts(2, at + 1);
        tick.counts(8, 2);
    }

    /** "If a day began in a call of tick(), a SNAPSHOT is written behind its record" */
    private static void onlyIfADayBegan() {
        Bench b = new Bench("only if a day began");
        b.tick(999);
        b.counts(9, 1);
        b.tick(1);
        b.counts(9, 4);
        b.tick(999);
        b.counts(9, 5);
        b.tick(1000);
        b.counts(9, 8);
        b.counts(2, 999);
        b.tick(1);
        b.counts(9, 11);
    }

    /** What the second of two days writes behind its record. */
    private static int snapshot(Bench b) {
        b.tick(1000);
        int before = b.count(9);
        b.tick(1000);
        return b.count(9) - before - 1;
    }

    /** "1 block for each 500 bytes, or less, of these: 20, 4 for each participant (the bank, too)" */
    private static void participantsOfASnapshot() {
        Bench b = new Bench("participants");
        b.is("the bank alone", snapshot(b), 2);
        for (int i = 0; i < 119; i++) {
            b.quietly("NEW", "CBNK", "P" + (100 + i));
        }
        // 20 + 4 * 120
        b.is("500 bytes", snapshot(b), 2);
        b.quietly("NEW", "CBNK", "LAST");
        b.is("504 bytes", snapshot(b), 3);
    }

    /** "14 for each asset" */
    private static void assetsOfASnapshot() {
        Bench b = new Bench("assets");
        for (int i = 0; i < 34; i++) {
            b.quietly("AST", "CBNK", "A" + (10 + i) + (i % 2 == 0 ? "S" + ONE : "C" + NIL) + "00");
        }
        // 20 + 4 + 14 * 34
        b.is("500 bytes", snapshot(b), 2);
        b.quietly("AST", "CBNK", "XXXS" + ONE + "00");
        b.is("514 bytes", snapshot(b), 3);
    }

    /** A house whose snapshot has 488 bytes without an amount: 20 + 4 * 5 + 14 * 32. */
    private static Bench nearTheEdge(String name) {
        Bench b = Bench.ready(name);
        for (int i = 0; i < 29; i++) {
            b.quietly("AST", "CBNK", "A" + (10 + i) + "S" + ONE + "00");
        }
        b.tick(100);
        return b;
    }

    /** "12 for each position (also of the bank) other than 0, each amount pledged other than 0 and each limit" */
    private static void amountsOfASnapshot() {
        Bench limit = nearTheEdge("limit");
        limit.quietly("LIM", "AAAA", "BBBB" + NIL);
        limit.is("a limit of 0", snapshot(limit), 2);
        limit.quietly("LIM", "AAAA", "BBBB" + ONE);
        limit.is("in its place", snapshot(limit), 2);
        limit.quietly("LIM", "BBBB", "AAAA" + ONE);
        limit.is("two limits", snapshot(limit), 3);
        limit.quietly("UNL", "AAAA", "BBBB");
        limit.is("one limit", snapshot(limit), 2);

        // The bank's and AAAA's: two amounts.
        Bench position = nearTheEdge("position");
        position.issue("EUR", "AAAA", 5);
        position.is("two positions", snapshot(position), 3);
        position.quietly("RED", "CBNK", "EURAAAA" + Bench.amount(5));
        position.is("none other than 0", snapshot(position), 2);

        // Here an odd number of amounts tells whether the bank's position is one of them.
        Bench bank = new Bench("the bank's");
        bank.quietly("AST", "CBNK", "EURC" + NIL + "00");
        bank.quietly("AST", "CBNK", "BNDS" + ONE + "00");
        for (int i = 0; i < 29; i++) {
            bank.quietly("AST", "CBNK", "A" + (10 + i) + "S" + ONE + "00");
        }
        bank.quietly("NEW", "CBNK", "AAAA");
        bank.quietly("NEW", "CBNK", "BBBB");
        bank.tick(100);
        // 20 + 4 * 3 + 14 * 31 are 466: two amounts more are 490, three are 502.
        bank.issue("BND", "AAAA", 5);
        bank.is("two positions", snapshot(bank), 2);
        bank.quietly("PLG", "AAAA", "BND" + ONE);
        bank.is("and a pledge", snapshot(bank), 3);
        bank.quietly("UNP", "AAAA", "BND" + ONE);
        bank.is("no pledge other than 0", snapshot(bank), 2);
        bank.tick(100);
        bank.issue("EUR", "AAAA", 5);
        bank.quietly("RED", "CBNK", "BNDAAAA" + Bench.amount(5));
        bank.is("the same in another asset", snapshot(bank), 2);
        bank.quietly("PAY", "AAAA", eur("AAAA", "BBBB", 5));
        bank.is("of another one", snapshot(bank), 2);
        bank.quietly("PAY", "BBBB", eur("BBBB", "AAAA", 1));
        bank.is("of two and the bank", snapshot(bank), 3);
    }

    /** The same with one of each to the last byte: 20 + 4 * 6 + 14 * 30 + 3 * 12. */
    private static void oneOfEachAmount() {
        Bench b = Bench.ready("one of each");
        b.quietly("NEW", "CBNK", "EEEE");
        for (int i = 0; i < 27; i++) {
            b.quietly("AST", "CBNK", "A" + (10 + i) + "S" + ONE + "00");
        }
        b.tick(100);
        b.issue("BND", "AAAA", 5);
        b.quietly("PLG", "AAAA", "BND" + ONE);
        b.is("two positions and a pledge: 500", snapshot(b), 2);
        b.quietly("PLG", "AAAA", "BND" + ONE);
        b.is("two pledged are one amount", snapshot(b), 2);
        b.quietly("LIM", "AAAA", "BBBB" + NIL);
        b.is("and a limit: 512", snapshot(b), 3);
        b.quietly("UNP", "AAAA", "BND" + Bench.amount(2));
        b.is("and no pledge: 500", snapshot(b), 2);
    }

    /** More than two blocks of amounts. */
    private static void snapshotOfThreeBlocks() {
        Bench b = new Bench("three blocks");
        for (int i = 0; i < 64; i++) {
            b.quietly("AST", "CBNK", "A" + (10 + i) + "C" + NIL + "00");
        }
        b.quietly("NEW", "CBNK", "AAAA");
        b.tick(100);
        // 20 + 4 * 2 + 14 * 64 are 924.
        b.is("924 bytes", snapshot(b), 3);
        for (int i = 0; i < 3; i++) {
            b.issue("A" + (10 + i), "AAAA", 1);
        }
        b.is("996 bytes", snapshot(b), 3);
        b.issue("A20", "AAAA", 1);
        b.is("1020 bytes", snapshot(b), 4);
    }

    /** "and 1 more, by which it counts: the journal begins anew with the next record, in a new block" */
    private static void theJournalBeginsAnew() {
        Bench b = new Bench("begins anew");
        fillTo(b, 0, BLOCK - 1);
        b.tick(1000);
        b.counts(8, 0);
        int written = b.count(9);
        // From the beginning of a block: all 500 bytes of it.
        int records = fillTo(b, 0, BLOCK);
        b.counts(8, 1);
        b.tick(1);
        b.counts(8, 2);
        b.counts(9, written + records + 1);
        Bench once = new Bench("each day");
        for (int day = 0; day < 5; day++) {
            once.tick(1000);
            once.counts(8, 0);
            once.counts(9, 3 * day + 3);
        }
    }

    /** "A snapshot that is not written whole counts for nothing: the journal goes on, where it ended." */
    private static void theJournalGoesOn() {
        for (int written = 1; written <= 2; written++) {
            Bench b = new Bench("goes on " + written);
            fillTo(b, 0, BLOCK - 2 * TICK);
            int before = b.count(9);
            b.charge(written);
            b.is("the power went", b.tick(1000), 2);
            b.start();
            b.counts(1, 1);
            b.counts(8, 1);
            b.counts(9, before + written + 1);
            // The record of that tick has its place, the next one lies behind it to the last byte.
            b.tick(1);
            b.counts(8, 1);
            b.tick(1);
            b.counts(8, 2);
            b.counts(9, before + written + 3);
        }
    }

    /** "After charge(n) n more blocks can be written; the next one is not" */
    private static void soManyAndNoMore() {
        for (int n = 0; n <= 5; n++) {
            Bench b = new Bench("charge " + n);
            b.tick(1);
            b.charge(n);
            for (int i = 0; i < n; i++) {
                b.is("written", b.tick(1), 1);
                b.counts(0, 1);
            }
            b.is("not written", b.tick(1), 2);
            b.counts(0, 0);
            b.counts(9, 1 + n);
        }
        Bench most = new Bench("the most");
        most.is("9999", most.charge(9999), true);
        for (int i = 0; i < 400; i++) {
            most.tick(1000);
        }
        most.counts(0, 1);
        most.counts(9, 1200);
    }

    /** "the house is DOWN, what was to be answered is gone" */
    private static void theAnswerIsGone() {
        Bench b = Bench.at("the answer", 899);
        b.quietly("PAY", "AAAA", eur("AAAA", "BBBB", 5));
        b.charge(1);
        // Its record is written whole, a block of the snapshot is not: what was sent back is not told.
        b.is("the power went", b.tick(200), 2);
        b.is("nothing to fetch", b.fetch(), 0L);
        b.start();
        b.is("nothing to fetch when up again", b.fetch(), 0L);
        b.counts(5, 0);
        b.pass(1, "");
        b.charge(0);
        b.is("the power went", b.post(Bench.signed("NEWCBNKREF00001EEEE")), 2);
        b.is("nothing to fetch", b.fetch(), 0L);
        b.start();
        b.is("nothing to fetch when up again", b.fetch(), 0L);
    }

    /** "also what was not fetched of answers before" */
    private static void whatWasNotFetchedIsGone() {
        Bench b = Bench.open("not fetched");
        b.issue("EUR", "AAAA", 5);
        b.post(Bench.signed("PAYAAAAREF00001" + eur("AAAA", "BBBB", 5)));
        b.is("some of it", b.fetch(), 0x074F4B20444F4E45L);
        b.charge(0);
        b.is("the power went", b.tick(1), 2);
        b.is("the rest", b.fetch(), 0L);
        b.start();
        b.is("the rest", b.fetch(), 0L);
    }

    /** "and the charge with it (all blocks can be written then, as at first, until there is another charge" */
    private static void theChargeIsGone() {
        Bench b = new Bench("the charge");
        b.charge(0);
        b.tick(1);
        b.is("start", b.start(), 1);
        for (int i = 0; i < 100; i++) {
            b.is("all blocks", b.tick(1000), 1);
        }
        b.charge(1);
        b.is("another charge", b.tick(1), 1);
        b.is("another charge", b.tick(1), 2);
    }

    /** "another charge, which may be said while it is down" */
    private static void aChargeWhileDown() {
        for (int n = 0; n <= 3; n++) {
            Bench b = new Bench("while down " + n);
            b.charge(0);
            b.tick(1);
            b.is("charge", b.charge(n), true);
            b.is("start", b.start(), n == 0 ? 2 : 1);
            for (int i = 1; i < n; i++) {
                b.is("written", b.tick(1), 1);
            }
            b.is("not written", b.tick(1), n == 0 ? 0 : 2);
            b.counts(9, n);
        }
        Bench wrong = new Bench("wrong while down");
        wrong.charge(0);
        wrong.tick(1);
        wrong.is("too small", wrong.charge(-1), false);
        wrong.is("too large", wrong.charge(10000), false);
        wrong.is("start", wrong.start(), 1);
        wrong.is("no charge", wrong.tick(1), 1);
    }

    /** "what was done of the call that was under way is as before it" */
    private static void asBeforeTheCall() {
        for (String record : RECORDS) {
            Bench b = withEverything(record);
            String text = Bench.signed(record.replace(" ", "REF00001"));
            int[] before = countsOf(b);
            b.charge(0);
            b.is("the power went", b.post(text), 2);
            b.start();
            int[] behind = countsOf(b);
            for (int what = 0; what < 9; what++) {
                b.is("count(" + what + ")", behind[what], before[what]);
            }
            b.is("one block for start", behind[9], before[9] + 1);
            b.holds(1, 0, 0);
            b.holds(1, 1, 10);
            b.holds(1, 2, 10);
            b.is("not sent yet", b.ask(text).startsWith("OK AGAIN"), false);
            b.is("sent now", b.ask(text).startsWith(record.startsWith("RES") ? "OK\n" : "OK AGAIN"), true);
        }
        Bench tick = Bench.at("a tick", 899);
        tick.quietly("PAY", "AAAA", eur("AAAA", "BBBB", 5));
        tick.charge(0);
        tick.is("the power went", tick.tick(500), 2);
        tick.start();
        tick.counts(1, 0);
        tick.counts(2, 899);
        tick.counts(5, 1);
        tick.pass(1, "BAAAAT0000008|");
    }

    private static int[] countsOf(Bench b) {
        int[] counts = new int[10];
        for (int what = 0; what < 10; what++) {
            counts[what] = b.count(what);
        }
        return counts;
    }

    /** "but if its record was written whole (also if a block of a snapshot could not be written): as behind it" */
    private static void asBehindTheCall() {
        for (int written = 1; written <= 2; written++) {
            Bench b = Bench.open("as behind it " + written);
            b.issue("EUR", "AAAA", 5);
            b.quietly("LIM", "AAAA", "BBBB" + Bench.amount(5));
            b.sayAs("PAY", "AAAA", "SAME0000", eur("AAAA", "BBBB", 5), "OK DONE|SAAAASAME0000|");
            b.sayAs("PAY", "AAAA", "RING0000", eur("AAAA", "CCCC", 3), "OK WAIT|");
            b.sayAs("PAY", "CCCC", "RING0000", eur("CCCC", "AAAA", 4), "OK WAIT|");
            b.sayAs("PAY", "CCCC", "LAST0000", eur("CCCC", "DDDD", 1), "OK WAIT|");
            b.sayAs("PAY", "DDDD", "ASKED000", eur("CCCC", "DDDD", 1), "OK CONF|");
            b.say("ISS", "CBNK", "EURCCCC" + Bench.amount(1), "OK|");
            b.charge(written);
            b.is("the power went", b.tick(1000), 2);
            b.holds(3, 0, 0);
            b.is("start", b.start(), 1);
            b.counts(1, 1);
            b.counts(2, 100);
            b.counts(5, 0);
            b.counts(6, 0);
            // The two of the ring settled, the others were sent back, and the day's sums and references are new.
            b.holds(1, 0, 1);
            b.holds(3, 0, 0);
            b.say("STM", "AAAA", "", "OK|EUR 1 0 0 1 0|");
            b.sayAs("LIM", "AAAA", "SAME0000", "BBBB" + NIL, "OK|");
            b.pass(1, "");
        }
    }

    /** "start(): one block is written (none of the journal's), then it is up again" */
    private static void oneBlockToStart() {
        Bench b = new Bench("start");
        fillTo(b, 0, BLOCK);
        b.charge(0);
        b.tick(1);
        int written = b.count(9);
        b.is("start", b.start(), 1);
        b.counts(0, 1);
        b.counts(9, written + 1);
        b.counts(8, 1);
        Bench empty = new Bench("start without a record");
        empty.charge(0);
        empty.tick(1);
        empty.is("start", empty.start(), 1);
        empty.counts(8, 0);
        empty.counts(9, 1);
        empty.tick(1);
        empty.counts(8, 1);
        empty.counts(9, 2);
    }

    /** "(or down still, if the power went again)" */
    private static void downStill() {
        Bench b = Bench.open("down still");
        b.issue("EUR", "AAAA", 5);
        b.charge(0);
        b.tick(1);
        int written = b.count(9);
        for (int i = 0; i < 3; i++) {
            b.charge(0);
            b.is("the power went again", b.start(), 2);
            b.counts(0, 0);
            b.counts(2, 0);
            b.counts(9, written);
            b.holds(1, 0, 0);
            b.is("still down", b.tick(1), 0);
        }
        b.is("with the charge", b.start(), 1);
        b.counts(2, 100);
        b.holds(1, 0, 5);
        b.counts(9, written + 1);
    }

    /** "The journal's blocks are those from the one in which it begins to the one in which its last record ends, 0 without a record." */
    private static void blocksOfTheJournal() {
        Bench b = new Bench("blocks of the journal");
        b.counts(8, 0);
        b.tick(1);
        b.counts(8, 1);
        for (int bytes = 2 * TICK; bytes <= 1600; bytes += TICK) {
            b.tick(1);
            if (bytes % BLOCK < 2 * TICK || bytes % BLOCK > BLOCK - 2 * TICK) {
                b.counts(8, (bytes + BLOCK - 1) / BLOCK);
            }
        }
        b.tick(1000);
        b.counts(8, 0);
        b.charge(0);
        b.tick(1);
        b.counts(8, 0);
        b.start();
        b.counts(8, 0);
    }

    /** A day of some messages, cut at every block that it writes: nothing that was answered is gone. */
    private static void everyCutOfADay() {
        int all = day(new Bench("not cut"), -1);
        for (int cut = 0; cut < all; cut++) {
            Bench b = new Bench("cut at " + cut);
            day(b, cut);
        }
    }

    /** Each message is sent until it is answered; how many blocks were written. */
    private static int day(Bench b, int cut) {
        if (cut >= 0) {
            b.charge(cut);
        }
        sendUntilAnswered(b, "ASTCBNKREF00001EURC" + NIL + "00", "OK\n");
        sendUntilAnswered(b, "NEWCBNKREF00002AAAA", "OK\n");
        sendUntilAnswered(b, "NEWCBNKREF00003BBBB", "OK\n");
        tickTo(b, 0, 100);
        sendUntilAnswered(b, "ISSCBNKREF00004EURAAAA" + Bench.amount(5), "OK\n");
        for (int i = 10; i < 18; i++) {
            sendUntilAnswered(b, "PAYAAAAREF000" + i + "14" + Bench.leg("AAAA", "BBBB", "EUR", 1).repeat(4),
                i == 10 ? "OK DONE\nSAAAAREF00010\n" : "OK WAIT\n");
        }
        b.counts(5, 7);
        tickTo(b, 1, 50);
        b.counts(5, 0);
        b.holds(1, 0, 1);
        b.holds(2, 0, 4);
        b.is("references are free", b.ask(Bench.signed("LIMAAAAREF00010BBBB" + ONE)), "OK\n");
        return b.count(9) - 1;
    }

    private static void sendUntilAnswered(Bench b, String body, String want) {
        String text = Bench.signed(body);
        int done = b.post(text);
        if (done == 2) {
            b.is("start", b.start(), 1);
            done = b.post(text);
        }
        b.is("send", done, 1);
        b.is(text, b.answer(), want);
    }

    /** A tick that was cut may be as behind it: the clock tells. */
    private static void tickTo(Bench b, int day, int tick) {
        int n = 1000 * day + tick - 1000 * b.count(1) - b.count(2);
        if (b.tick(n) == 2) {
            b.start();
            int left = 1000 * day + tick - 1000 * b.count(1) - b.count(2);
            b.is("all or nothing", left == 0 || left == n, true);
            if (left != 0) {
                b.tick(left);
            }
        }
        b.counts(1, day);
        b.counts(2, tick);
    }
}
