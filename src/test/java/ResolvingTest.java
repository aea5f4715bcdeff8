/** Of send and tick: gridlock resolved by the greatest set that can settle. */
public final class ResolvingTest {
    public static void main(String[] args) {
        aRing();
        theLastOneIsDropped();
        whoFollowsIsDropped();
        whatIsDroppedTakesItsGiftsAway();
        partOfTheQueue();
        theGreatest();
        severalAssets();
        nothingToResolve();
        Bench.finish();
    }

    private static void pay(Bench b, String reference, String from, String to, long n) {
        b.sayAs("PAY", from, reference, "51" + Bench.leg(from, to, "EUR", n), "OK WAIT|");
    }

    private static void aRing() {
        Bench b = Bench.open("a ring");
        pay(b, "P0000003", "CCCC", "AAAA", 7);
        pay(b, "P0000001", "AAAA", "BBBB", 7);
        pay(b, "P0000002", "BBBB", "CCCC", 7);
        b.say("RES", "CBNK", "", "OK|SCCCCP0000003|SAAAAP0000001|SBBBBP0000002|");
        for (int p = 0; p < 4; p++) {
            b.holds(p, 0, 0);
        }
        b.say("STM", "AAAA", "", "OK|EUR 0 7 7 0 2|");
    }

    private static void theLastOneIsDropped() {
        Bench b = Bench.open("the last one");
        pay(b, "P0000001", "AAAA", "BBBB", 7);
        pay(b, "P0000002", "BBBB", "AAAA", 7);
        pay(b, "P0000003", "AAAA", "BBBB", 1);
        pay(b, "P0000004", "AAAA", "BBBB", 1);
        b.say("RES", "CBNK", "", "OK|SAAAAP0000001|SBBBBP0000002|");
        b.counts(5, 2);
        // Of the same two, with the large one behind: what the small one needs is not there any more.
        b.say("RES", "CBNK", "", "OK|");
    }

    private static void whoFollowsIsDropped() {
        Bench b = Bench.open("who follows");
        b.issue("EUR", "BBBB", 6);
        pay(b, "P0000001", "AAAA", "CCCC", 7);
        b.sayAs("PAY", "AAAA", "P0000002", "52" + Bench.leg("AAAA", "BBBB", "EUR", 1) + Bench.leg("BBBB", "DDDD", "EUR", 7), "OK CONF|");
        b.say("CNF", "BBBB", "AAAAP0000002", "OK WAIT|");
        // It takes from BBBB as P0000002 does, so it stays behind that; alone it could settle.
        pay(b, "P0000003", "BBBB", "CCCC", 1);
        b.say("RES", "CBNK", "", "OK|");
        b.counts(5, 3);
        b.say("CAN", "AAAA", "P0000002", "OK|SBBBBP0000003|");
    }

    private static void whatIsDroppedTakesItsGiftsAway() {
        Bench b = Bench.open("gifts");
        // DDDD pays what it has not; with that all of them could settle, without it none can.
        pay(b, "P0000001", "AAAA", "BBBB", 5);
        pay(b, "P0000002", "BBBB", "CCCC", 5);
        pay(b, "P0000003", "CCCC", "AAAA", 3);
        b.sayAs("PAY", "DDDD", "P0000004", "51" + Bench.leg("DDDD", "AAAA", "EUR", 2), "OK WAIT|");
        b.say("RES", "CBNK", "", "OK|");
        b.counts(5, 4);
        b.say("ISS", "CBNK", "EURDDDD" + Bench.amount(1), "OK|");
        b.say("RES", "CBNK", "", "OK|");
        b.say("ISS", "CBNK", "EURDDDD" + Bench.amount(1), "OK|SDDDDP0000004|");
        b.say("RES", "CBNK", "", "OK|SAAAAP0000001|SBBBBP0000002|SCCCCP0000003|");
        b.holds(3, 0, 2);
    }

    private static void partOfTheQueue() {
        Bench b = Bench.open("part");
        pay(b, "P0000001", "AAAA", "BBBB", 5);
        pay(b, "P0000002", "CCCC", "DDDD", 5);
        pay(b, "P0000003", "BBBB", "AAAA", 5);
        pay(b, "P0000004", "DDDD", "CCCC", 4);
        b.say("RES", "CBNK", "", "OK|SAAAAP0000001|SBBBBP0000003|");
        b.counts(5, 2);
        b.say("ISS", "CBNK", "EURCCCC" + Bench.amount(1), "OK|");
        b.pass(50, "SCCCCP0000002|SDDDDP0000004|");
        b.holds(4, 0, 1);
    }

    /** In it is also what could settle only behind others of it. */
    private static void theGreatest() {
        Bench b = Bench.open("the greatest");
        b.say("LIM", "AAAA", "BBBB" + Bench.amount(9), "OK|");
        pay(b, "P0000001", "AAAA", "BBBB", 9);
        pay(b, "P0000002", "BBBB", "AAAA", 9);
        b.sayAs("PAY", "CCCC", "P0000003", "91" + Bench.leg("CCCC", "DDDD", "EUR", 1), "OK WAIT|");
        b.sayAs("PAY", "BBBB", "P0000004", "82" + Bench.leg("BBBB", "CCCC", "EUR", 1) + Bench.leg("AAAA", "BBBB", "EUR", 1), "OK CONF|");
        b.say("CNF", "AAAA", "BBBBP0000004", "OK WAIT|");
        b.issue("EUR", "AAAA", 1);
        b.say("RES", "CBNK", "", "OK|SAAAAP0000001|SBBBBP0000002|SBBBBP0000004|SCCCCP0000003|");
        b.holds(4, 0, 1);
    }

    private static void severalAssets() {
        Bench b = Bench.open("several assets");
        b.issue("BND", "AAAA", 5);
        b.issue("EUR", "CCCC", 10);
        // BBBB buys from AAAA and sells to CCCC, with nothing of its own.
        b.sayAs("PAY", "AAAA", "BUY00000", "52" + Bench.leg("AAAA", "BBBB", "BND", 5) + Bench.leg("BBBB", "AAAA", "EUR", 9), "OK CONF|");
        b.say("CNF", "BBBB", "AAAABUY00000", "OK WAIT|");
        b.sayAs("PAY", "BBBB", "SELL0000", "52" + Bench.leg("BBBB", "CCCC", "BND", 5) + Bench.leg("CCCC", "BBBB", "EUR", 10), "OK CONF|");
        b.say("CNF", "CCCC", "BBBBSELL0000", "OK WAIT|");
        b.pass(50, "SAAAABUY00000|SBBBBSELL0000|");
        b.holds(1, 0, 9);
        b.holds(2, 0, 1);
        b.holds(3, 2, 5);
        b.holds(2, 2, 0);
    }

    private static void nothingToResolve() {
        Bench b = Bench.open("nothing");
        b.say("RES", "CBNK", "", "OK|");
        b.sayAs("PAY", "AAAA", "ASKED000", "51" + Bench.leg("BBBB", "AAAA", "EUR", 5), "OK CONF|");
        pay(b, "P0000001", "AAAA", "BBBB", 5);
        // One that is to be confirmed is in no set.
        b.say("RES", "CBNK", "", "OK|");
        b.say("CNF", "BBBB", "AAAAASKED000", "OK WAIT|");
        b.say("RES", "AAAA", "", "NO 03|");
        b.say("RES", "CBNK", "", "OK|SAAAAP0000001|SAAAAASKED000|");
    }
}
