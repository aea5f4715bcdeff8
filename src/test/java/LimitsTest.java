/** Of send and tick: limits between two. */
public final class LimitsTest {
    public static void main(String[] args) {
        aLimitHolds();
        whatComesBackGivesRoom();
        paidBeforeItWasSet();
        raisedAndDropped();
        anothersPlace();
        netsOfOneInstruction();
        roomsKeepOrder();
        roomsInResolving();
        Bench.finish();
    }

    private static Bench rich(String name) {
        Bench b = Bench.open(name);
        b.issue("EUR", "AAAA", 1000);
        b.issue("EUR", "BBBB", 1000);
        return b;
    }

    private static String eur(String from, String to, long n) {
        return "51" + Bench.leg(from, to, "EUR", n);
    }

    private static void aLimitHolds() {
        Bench b = rich("a limit");
        b.issue("USD", "AAAA", 100);
        b.say("LIM", "AAAA", "BBBB" + Bench.amount(10), "OK|");
        b.sayAs("PAY", "AAAA", "P0000001", eur("AAAA", "BBBB", 10), "OK DONE|SAAAAP0000001|");
        b.sayAs("PAY", "AAAA", "P0000002", eur("AAAA", "BBBB", 1), "OK WAIT|");
        // Not against the limit: another currency, the other way round, another one. But none passes by in EUR.
        b.sayAs("PAY", "AAAA", "P0000003", "51" + Bench.leg("AAAA", "BBBB", "USD", 50), "OK DONE|SAAAAP0000003|");
        b.sayAs("PAY", "AAAA", "P0000004", eur("AAAA", "CCCC", 50), "OK WAIT|");
        b.sayAs("PAY", "AAAA", "P0000005", "41" + Bench.leg("AAAA", "CCCC", "EUR", 50), "OK DONE|SAAAAP0000005|");
        b.say("LIM", "AAAA", "CCCC" + Bench.amount(49), "NO 09|");
        b.say("LIM", "AAAA", "CCCC" + Bench.amount(50), "OK|");
        b.counts(5, 2);
    }

    private static void whatComesBackGivesRoom() {
        Bench b = rich("comes back");
        b.say("LIM", "AAAA", "BBBB" + Bench.amount(0), "OK|");
        b.sayAs("PAY", "AAAA", "P0000001", eur("AAAA", "BBBB", 3), "OK WAIT|");
        b.sayAs("PAY", "BBBB", "P0000002", eur("BBBB", "AAAA", 2), "OK DONE|SBBBBP0000002|");
        b.sayAs("PAY", "BBBB", "P0000003", eur("BBBB", "AAAA", 1), "OK DONE|SBBBBP0000003|SAAAAP0000001|");
        b.say("LIM", "BBBB", "AAAA" + Bench.amount(0), "OK|");
        b.say("PAY", "BBBB", eur("BBBB", "AAAA", 1), "OK WAIT|");
    }

    private static void paidBeforeItWasSet() {
        Bench b = rich("paid before");
        b.quietly("PAY", "AAAA", eur("AAAA", "BBBB", 8));
        b.quietly("PAY", "BBBB", eur("BBBB", "AAAA", 1));
        b.say("LIM", "AAAA", "BBBB" + Bench.amount(6), "NO 09|");
        b.say("LIM", "AAAA", "BBBB" + Bench.amount(7), "OK|");
        b.say("LIM", "BBBB", "AAAA" + Bench.amount(0), "OK|");
        b.say("PAY", "AAAA", eur("AAAA", "BBBB", 1), "OK WAIT|");
        b.sayAs("PAY", "BBBB", "P0000001", eur("BBBB", "AAAA", 8), "OK WAIT|");
        b.say("CAN", "BBBB", "P0000001", "OK|");
        b.sayAs("PAY", "BBBB", "P0000002", eur("BBBB", "AAAA", 7), "OK DONE|SBBBBP0000002|SAAAAT0000015|");
        // The next day nothing was paid.
        b.pass(1000, "");
        b.say("PAY", "BBBB", eur("BBBB", "AAAA", 1), "OK WAIT|");
        b.say("LIM", "AAAA", "BBBB" + Bench.amount(0), "OK|");
    }

    private static void raisedAndDropped() {
        Bench b = rich("raised and dropped");
        b.say("LIM", "AAAA", "BBBB" + Bench.amount(1), "OK|");
        b.sayAs("PAY", "AAAA", "P0000001", eur("AAAA", "BBBB", 3), "OK WAIT|");
        b.sayAs("PAY", "AAAA", "P0000002", eur("AAAA", "BBBB", 3), "OK WAIT|");
        b.say("LIM", "AAAA", "BBBB" + Bench.amount(2), "OK|");
        b.say("LIM", "AAAA", "BBBB" + Bench.amount(3), "OK|SAAAAP0000001|");
        b.say("UNL", "AAAA", "BBBB", "OK|SAAAAP0000002|");
        b.say("UNL", "AAAA", "BBBB", "NO 08|");
        b.say("UNL", "BBBB", "AAAA", "NO 08|");
        b.say("LIM", "AAAA", "BBBB" + Bench.amount(5), "NO 09|");
        b.say("LIM", "AAAA", "BBBB" + Bench.amount(999999999999999L), "OK|");
    }

    private static void anothersPlace() {
        Bench b = rich("another's place");
        b.say("LIM", "AAAA", "BBBB" + Bench.amount(1), "OK|");
        b.say("LIM", "BBBB", "AAAA" + Bench.amount(2), "OK|");
        b.say("LIM", "AAAA", "CCCC" + Bench.amount(3), "OK|");
        b.say("PAY", "BBBB", eur("BBBB", "AAAA", 2), "OK DONE|SBBBBT0000013|");
        b.say("PAY", "AAAA", eur("AAAA", "CCCC", 3), "OK DONE|SAAAAT0000014|");
        b.say("PAY", "AAAA", eur("AAAA", "BBBB", 3), "OK DONE|SAAAAT0000015|");
        b.say("PAY", "AAAA", eur("AAAA", "BBBB", 1), "OK WAIT|");
    }

    private static void netsOfOneInstruction() {
        Bench b = rich("nets");
        b.say("LIM", "AAAA", "BBBB" + Bench.amount(2), "OK|");
        b.say("LIM", "BBBB", "AAAA" + Bench.amount(0), "OK|");
        b.sayAs("PAY", "AAAA", "BOTH0000", "53" + Bench.leg("AAAA", "BBBB", "EUR", 50) + Bench.leg("BBBB", "AAAA", "EUR", 40)
            + Bench.leg("BBBB", "AAAA", "EUR", 8), "OK CONF|");
        b.say("CNF", "BBBB", "AAAABOTH0000", "OK DONE|SAAAABOTH0000|");
        b.say("PAY", "AAAA", eur("AAAA", "BBBB", 1), "OK WAIT|");
        b.say("PAY", "BBBB", eur("BBBB", "AAAA", 3), "OK WAIT|");
        b.say("RES", "CBNK", "", "OK|SAAAAT0000013|SBBBBT0000014|");
        // What is paid to a third one is not paid between these two.
        b.say("PAY", "AAAA", "52" + Bench.leg("AAAA", "BBBB", "EUR", 1) + Bench.leg("AAAA", "CCCC", "EUR", 5), "OK DONE|SAAAAT0000016|");
        b.say("LIM", "AAAA", "BBBB" + Bench.amount(0), "NO 09|");
        b.say("LIM", "AAAA", "BBBB" + Bench.amount(1), "OK|");
    }

    /** One that waits for room keeps another from the room, and what takes from its account, too. */
    private static void roomsKeepOrder() {
        Bench b = rich("rooms keep order");
        b.issue("USD", "AAAA", 5);
        b.say("LIM", "AAAA", "BBBB" + Bench.amount(5), "OK|");
        // AAAA gets in EUR from CCCC as much as it pays BBBB: it takes from the room alone.
        b.issue("EUR", "CCCC", 100);
        b.sayAs("PAY", "AAAA", "ROOM0001", "52" + Bench.leg("AAAA", "BBBB", "EUR", 6) + Bench.leg("CCCC", "AAAA", "EUR", 6), "OK CONF|");
        b.say("CNF", "CCCC", "AAAAROOM0001", "OK WAIT|");
        b.sayAs("PAY", "AAAA", "ROOM0002", eur("AAAA", "BBBB", 1), "OK WAIT|");
        b.sayAs("PAY", "AAAA", "OTHER001", eur("AAAA", "DDDD", 1), "OK WAIT|");
        b.say("CAN", "AAAA", "ROOM0002", "OK|SAAAAOTHER001|");
        b.sayAs("PAY", "CCCC", "OTHER002", eur("CCCC", "DDDD", 1), "OK WAIT|");
        b.say("UNL", "AAAA", "BBBB", "OK|SAAAAROOM0001|SCCCCOTHER002|");
    }

    private static void roomsInResolving() {
        Bench b = rich("resolving");
        b.say("LIM", "AAAA", "BBBB" + Bench.amount(0), "OK|");
        b.say("LIM", "BBBB", "AAAA" + Bench.amount(0), "OK|");
        b.sayAs("PAY", "AAAA", "P0000001", eur("AAAA", "BBBB", 5), "OK WAIT|");
        b.sayAs("PAY", "BBBB", "P0000002", eur("BBBB", "AAAA", 4), "OK WAIT|");
        b.say("RES", "CBNK", "", "OK|");
        b.say("LIM", "AAAA", "BBBB" + Bench.amount(1), "OK|");
        b.say("RES", "CBNK", "", "OK|SAAAAP0000001|SBBBBP0000002|");
    }
}
