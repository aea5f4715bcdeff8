/** Promise 4: tick, and the day. */
public final class TickTest {
    private static final String PAY_5 = "51" + Bench.leg("AAAA", "BBBB", "EUR", 1);
    private static final String PAY_4 = "41" + Bench.leg("AAAA", "BBBB", "EUR", 1);
    private static final String PAY_USD = "12" + Bench.leg("AAAA", "BBBB", "EUR", 1) + Bench.leg("AAAA", "BBBB", "USD", 1);

    public static void main(String[] args) {
        outOfRange();
        daysAndTicks();
        early();
        openAndLate();
        finalPhase();
        shut();
        whatComesAlwaysIn();
        resolvedEveryFifty();
        sentBackAt900();
        aDayBegins();
        Bench.finish();
    }

    private static void outOfRange() {
        Bench b = new Bench("range");
        for (int n : new int[] {0, -1, 1001, Integer.MIN_VALUE, Integer.MAX_VALUE}) {
            b.is("tick(" + n + ")", b.tick(n), 0);
        }
        b.counts(2, 0);
        b.counts(9, 0);
        b.charge(0);
        b.is("power went", b.tick(1), 2);
        b.is("down", b.tick(1), 0);
    }

    private static void daysAndTicks() {
        Bench b = new Bench("days");
        b.is("tick", b.tick(999), 1);
        b.counts(1, 0);
        b.counts(2, 999);
        b.is("tick", b.tick(1000), 1);
        b.counts(1, 1);
        b.counts(2, 999);
        b.is("tick", b.tick(1), 1);
        b.counts(1, 2);
        b.counts(2, 0);
        b.is("tick", b.tick(1000), 1);
        b.counts(1, 3);
        b.counts(2, 0);
    }

    private static void early() {
        Bench b = Bench.ready("early");
        b.tick(99);
        b.say("PAY", "AAAA", PAY_4, "NO 07|");
        b.say("CNF", "AAAA", "BBBBNOTHING0", "NO 07|");
        b.say("ISS", "CBNK", "EURAAAA" + Bench.amount(1), "NO 07|");
        b.say("RED", "CBNK", "EURAAAA" + Bench.amount(1), "NO 07|");
        b.say("RES", "CBNK", "", "NO 07|");
        b.say("CAN", "AAAA", "NOTHING0", "NO 11|");
        b.say("PRI", "AAAA", "NOTHING01", "NO 11|");
        b.tick(1);
        b.say("CNF", "AAAA", "BBBBNOTHING0", "NO 11|");
        b.say("RES", "CBNK", "", "OK|");
        b.say("RED", "CBNK", "EURAAAA" + Bench.amount(1), "NO 09|");
        b.say("ISS", "CBNK", "EURAAAA" + Bench.amount(1), "OK|");
        b.say("PAY", "AAAA", "91" + Bench.leg("AAAA", "BBBB", "USD", 1), "OK WAIT|");
    }

    private static void openAndLate() {
        Bench b = Bench.ready("late");
        b.tick(699);
        b.say("PAY", "AAAA", PAY_5, "OK WAIT|");
        b.sayAs("PAY", "AAAA", "ASKED000", "91" + Bench.leg("BBBB", "CCCC", "EUR", 1), "OK CONF|");
        b.tick(1);
        b.say("PAY", "AAAA", PAY_5, "NO 07|");
        b.say("PAY", "AAAA", "01" + Bench.leg("AAAA", "BBBB", "EUR", 1), "NO 01|");
        b.say("PAY", "AAAA", PAY_4, "OK WAIT|");
        b.say("PAY", "AAAA", PAY_USD, "OK WAIT|");
        b.sayAs("PAY", "AAAA", "LATE0000", PAY_4, "OK WAIT|");
        b.say("PRI", "AAAA", "LATE00009", "OK|");
        b.say("CNF", "BBBB", "AAAAASKED000", "OK WAIT|");
        b.tick(99);
        b.say("PAY", "AAAA", PAY_5, "NO 07|");
    }

    private static void finalPhase() {
        Bench b = Bench.ready("final");
        b.tick(750);
        b.sayAs("PAY", "AAAA", "ASKED000", "11" + Bench.leg("BBBB", "CCCC", "USD", 1), "OK CONF|");
        b.tick(50);
        b.say("PAY", "AAAA", PAY_USD, "NO 07|");
        b.say("PAY", "AAAA", "11" + Bench.leg("AAAA", "BBBB", "BND", 1), "NO 07|");
        b.say("PAY", "AAAA", "91" + Bench.leg("AAAA", "BBBB", "EUR", 1), "OK WAIT|");
        b.say("CNF", "BBBB", "AAAAASKED000", "OK WAIT|");
        b.tick(99);
        b.say("PAY", "AAAA", PAY_5, "OK WAIT|");
        Bench none = new Bench("final without a currency");
        none.quietly("AST", "CBNK", "BNDS" + Bench.amount(1) + "00");
        none.quietly("NEW", "CBNK", "AAAA");
        none.quietly("NEW", "CBNK", "BBBB");
        none.tick(800);
        none.say("PAY", "AAAA", "11" + Bench.leg("AAAA", "BBBB", "BND", 1), "NO 07|");
    }

    private static void shut() {
        Bench b = Bench.ready("shut");
        b.tick(900);
        for (int i = 0; i < 2; i++) {
            b.say("PAY", "AAAA", PAY_4, "NO 07|");
            b.say("CNF", "AAAA", "BBBBNOTHING0", "NO 07|");
            b.say("CAN", "AAAA", "NOTHING0", "NO 07|");
            b.say("PRI", "AAAA", "NOTHING01", "NO 07|");
            b.say("ISS", "CBNK", "EURAAAA" + Bench.amount(1), "NO 07|");
            b.say("RED", "CBNK", "EURAAAA" + Bench.amount(1), "NO 07|");
            b.say("RES", "CBNK", "", "NO 07|");
            b.tick(99);
        }
    }

    private static void whatComesAlwaysIn() {
        Bench b = Bench.open("always");
        b.issue("BND", "AAAA", 100);
        int[] steps = {1, 700, 100, 100, 100};
        int made = 0;
        for (int step : steps) {
            b.tick(step);
            b.say("NEW", "CBNK", "NEW" + made, "OK|");
            b.say("AST", "CBNK", "AS" + made + "C" + Bench.amount(0) + "00", "OK|");
            b.say("PRC", "CBNK", "BND" + Bench.amount(made) + "00", "OK|");
            b.say("LIM", "AAAA", "BBBB" + Bench.amount(1), "OK|");
            b.say("UNL", "AAAA", "BBBB", "OK|");
            b.say("PLG", "AAAA", "BND" + Bench.amount(2), "OK|");
            b.say("UNP", "AAAA", "BND" + Bench.amount(1), "OK|");
            made++;
        }
        b.say("STM", "AAAA", "", "OK|BND 100 0 0 100 0|");
    }

    /** Two that wait for one another, with nothing on either side. */
    private static void deadlock(Bench b, String number) {
        b.sayAs("PAY", "AAAA", "A" + number, "11" + Bench.leg("AAAA", "BBBB", "EUR", 1), "OK WAIT|");
        b.sayAs("PAY", "BBBB", "B" + number, "11" + Bench.leg("BBBB", "AAAA", "EUR", 1), "OK WAIT|");
    }

    private static void resolvedEveryFifty() {
        Bench b = Bench.open("fifty");
        deadlock(b, "0000100");
        b.pass(49, "");
        b.pass(1, "SAAAAA0000100|SBBBBB0000100|");
        deadlock(b, "0000150");
        b.pass(49, "");
        b.pass(1, "SAAAAA0000150|SBBBBB0000150|");
        deadlock(b, "0000200");
        b.pass(600, "SAAAAA0000200|SBBBBB0000200|");
        deadlock(b, "0000800");
        b.pass(50, "SAAAAA0000800|SBBBBB0000800|");
        deadlock(b, "0000850");
        b.pass(50, "SAAAAA0000850|SBBBBB0000850|");
    }

    private static void sentBackAt900() {
        Bench b = Bench.open("sent back");
        b.sayAs("PAY", "AAAA", "LAST0000", "91" + Bench.leg("AAAA", "BBBB", "EUR", 5), "OK WAIT|");
        b.sayAs("PAY", "AAAA", "ASK20000", "11" + Bench.leg("BBBB", "CCCC", "EUR", 5), "OK CONF|");
        b.sayAs("PAY", "AAAA", "ASK10000", "21" + Bench.leg("BBBB", "CCCC", "EUR", 5), "OK CONF|");
        b.sayAs("PAY", "AAAA", "FIRST000", "11" + Bench.leg("AAAA", "BBBB", "EUR", 5), "OK WAIT|");
        b.sayAs("PRI", "AAAA", "PRI00000", "ASK200009", "OK|");
        b.pass(799, "");
        deadlock(b, "0000899");
        b.say("PRI", "AAAA", "A00008991", "OK|");
        b.say("CAN", "AAAA", "FIRST000", "OK|");
        b.pass(1, "SBBBBB0000899|SAAAAA0000899|BAAAALAST0000|BAAAAASK20000|BAAAAASK10000|");
        b.counts(5, 0);
        b.counts(6, 0);
        b.pass(200, "");
        b.say("CNF", "BBBB", "AAAAASK10000", "NO 11|");
        b.say("CAN", "AAAA", "LAST0000", "NO 11|");
    }

    private static void aDayBegins() {
        Bench b = Bench.open("a day begins");
        b.issue("EUR", "AAAA", 10);
        b.say("LIM", "AAAA", "BBBB" + Bench.amount(5), "OK|");
        b.sayAs("PAY", "AAAA", "SAMEREF0", "11" + Bench.leg("AAAA", "BBBB", "EUR", 5), "OK DONE|SAAAASAMEREF0|");
        b.say("STM", "AAAA", "", "OK|EUR 0 5 10 5 2|");
        b.pass(1000, "");
        b.say("STM", "AAAA", "", "OK|EUR 5 0 0 5 0|");
        b.sayAs("PAY", "AAAA", "SAMEREF0", "11" + Bench.leg("AAAA", "BBBB", "EUR", 5), "OK DONE|SAAAASAMEREF0|");
        b.sayAs("PAY", "AAAA", "SAMEREF1", "11" + Bench.leg("AAAA", "BBBB", "EUR", 1), "OK WAIT|");
        b.holds(1, 0, 0);
        b.holds(2, 0, 10);
        // At the last tick of a day and at the first of the next one.
        b.pass(899, "BAAAASAMEREF1|");
        b.sayAs("LIM", "AAAA", "SAMEREF0", "BBBB" + Bench.amount(9), "NO 06|");
        b.pass(1, "");
        b.sayAs("LIM", "AAAA", "SAMEREF0", "BBBB" + Bench.amount(9), "OK|");
    }
}
