/** Of send and tick: instructions, their confirming, their order, and statements. */
public final class InstructionsTest {
    public static void main(String[] args) {
        confirming();
        confirmingWhatCanNotBe();
        allOrNone();
        netsOfLegs();
        theOrder();
        noneGoesPastOneThatTakesTheSame();
        givingUp();
        settlingBehindAnother();
        statements();
        Bench.finish();
    }

    private static void confirming() {
        Bench b = Bench.open("confirming");
        b.issue("EUR", "AAAA", 10);
        b.issue("BND", "BBBB", 10);
        b.issue("USD", "CCCC", 10);
        String three = "13" + Bench.leg("AAAA", "BBBB", "EUR", 5) + Bench.leg("BBBB", "CCCC", "BND", 5)
            + Bench.leg("CCCC", "AAAA", "USD", 5);
        b.sayAs("PAY", "AAAA", "THREE000", three, "OK CONF|");
        b.counts(6, 1);
        b.say("CNF", "CCCC", "AAAATHREE000", "OK CONF|");
        b.say("CNF", "CCCC", "AAAATHREE000", "NO 08|");
        b.counts(6, 1);
        b.say("CNF", "BBBB", "AAAATHREE000", "OK DONE|SAAAATHREE000|");
        b.counts(6, 0);
        b.holds(1, 0, 5);
        b.holds(2, 2, 5);
        b.holds(3, 1, 5);
        // The bank, and one from whom no leg goes.
        b.sayAs("PAY", "CBNK", "BANK0000", "11" + Bench.leg("AAAA", "BBBB", "EUR", 5), "OK CONF|");
        b.say("CNF", "AAAA", "CBNKBANK0000", "OK DONE|SCBNKBANK0000|");
        b.sayAs("PAY", "DDDD", "DDDD0000", "11" + Bench.leg("AAAA", "BBBB", "EUR", 5), "OK CONF|");
        b.say("CNF", "AAAA", "DDDDDDDD0000", "OK WAIT|");
        b.counts(5, 1);
        // One who pays in two legs confirms once.
        b.sayAs("PAY", "AAAA", "TWICE000", "12" + Bench.leg("BBBB", "AAAA", "EUR", 1) + Bench.leg("BBBB", "CCCC", "EUR", 2), "OK CONF|");
        b.say("CNF", "BBBB", "AAAATWICE000", "OK DONE|SAAAATWICE000|");
    }

    private static void confirmingWhatCanNotBe() {
        Bench b = Bench.open("confirming what can't be");
        b.sayAs("PAY", "AAAA", "ONE00000", "12" + Bench.leg("AAAA", "BBBB", "EUR", 5) + Bench.leg("BBBB", "CCCC", "EUR", 5), "OK CONF|");
        b.say("CNF", "AAAA", "AAAAONE00000", "NO 08|");
        b.say("CNF", "CCCC", "AAAAONE00000", "NO 08|");
        b.say("CNF", "CBNK", "AAAAONE00000", "NO 08|");
        b.say("CNF", "BBBB", "AAAAONE00001", "NO 11|");
        b.say("CNF", "BBBB", "BBBBONE00000", "NO 11|");
        b.say("CNF", "BBBB", "AAAAONE00000", "OK WAIT|");
        b.say("CNF", "BBBB", "AAAAONE00000", "NO 08|");
        b.say("CNF", "AAAA", "AAAAONE00000", "NO 08|");
        b.issue("EUR", "AAAA", 5);
        b.is("settled by the issue", b.answer(), "OK\nSAAAAONE00000\n");
        b.say("CNF", "BBBB", "AAAAONE00000", "NO 11|");
        b.sayAs("PAY", "CCCC", "TWO00000", "11" + Bench.leg("AAAA", "CCCC", "EUR", 5), "OK CONF|");
        b.say("CAN", "CCCC", "TWO00000", "OK|");
        b.say("CNF", "AAAA", "CCCCTWO00000", "NO 11|");
        // A reference of another kind of message names no instruction.
        b.sayAs("LIM", "AAAA", "LIMIT000", "BBBB" + Bench.amount(5), "OK|");
        b.say("CAN", "AAAA", "LIMIT000", "NO 11|");
    }

    private static void allOrNone() {
        Bench b = Bench.open("all or none");
        b.issue("EUR", "AAAA", 10);
        b.sayAs("PAY", "AAAA", "BOTH0000", "12" + Bench.leg("AAAA", "BBBB", "EUR", 5) + Bench.leg("AAAA", "BBBB", "USD", 5), "OK WAIT|");
        b.holds(1, 0, 10);
        b.holds(2, 0, 0);
        b.say("ISS", "CBNK", "USDAAAA" + Bench.amount(4), "OK|");
        b.say("ISS", "CBNK", "USDAAAA" + Bench.amount(1), "OK|SAAAABOTH0000|");
        b.holds(1, 0, 5);
        b.holds(1, 1, 0);
        b.holds(2, 1, 5);
    }

    private static void netsOfLegs() {
        Bench b = Bench.open("nets");
        // AAAA gets what it pays; nobody needs to have anything but BBBB 3.
        String ring = Bench.leg("AAAA", "CCCC", "EUR", 5) + Bench.leg("BBBB", "AAAA", "EUR", 5) + Bench.leg("CCCC", "BBBB", "EUR", 2);
        b.sayAs("PAY", "AAAA", "RING0000", "13" + ring, "OK CONF|");
        b.say("CNF", "BBBB", "AAAARING0000", "OK CONF|");
        b.say("CNF", "CCCC", "AAAARING0000", "OK WAIT|");
        b.say("ISS", "CBNK", "EURBBBB" + Bench.amount(3), "OK|SAAAARING0000|");
        b.holds(1, 0, 0);
        b.holds(2, 0, 0);
        b.holds(3, 0, 3);
        b.say("STM", "AAAA", "", "OK|");
        b.say("STM", "BBBB", "", "OK|EUR 0 3 3 0 2|");
        b.say("STM", "CCCC", "", "OK|EUR 0 0 3 3 1|");
        // Nets of 0 take from nobody, whoever waits before it.
        b.say("PAY", "AAAA", "11" + Bench.leg("AAAA", "BBBB", "EUR", 1), "OK WAIT|");
        b.sayAs("PAY", "BBBB", "ZERO0000", "92" + Bench.leg("AAAA", "BBBB", "EUR", 9) + Bench.leg("BBBB", "AAAA", "EUR", 9), "OK CONF|");
        b.say("CNF", "AAAA", "BBBBZERO0000", "OK DONE|SBBBBZERO0000|");
    }

    private static void theOrder() {
        Bench b = Bench.open("order");
        b.sayAs("PAY", "AAAA", "P5FIRST0", "51" + Bench.leg("AAAA", "BBBB", "EUR", 1), "OK WAIT|");
        b.sayAs("PAY", "AAAA", "P9FIRST0", "91" + Bench.leg("AAAA", "BBBB", "EUR", 1), "OK WAIT|");
        b.sayAs("PAY", "AAAA", "P5SECOND", "51" + Bench.leg("AAAA", "BBBB", "EUR", 1), "OK WAIT|");
        b.sayAs("PAY", "AAAA", "P1LATER0", "11" + Bench.leg("AAAA", "BBBB", "EUR", 1), "OK WAIT|");
        b.sayAs("PAY", "BBBB", "P5ASKED0", "51" + Bench.leg("AAAA", "BBBB", "EUR", 1), "OK CONF|");
        b.sayAs("PAY", "AAAA", "P5THIRD0", "51" + Bench.leg("AAAA", "BBBB", "EUR", 1), "OK WAIT|");
        b.say("CNF", "AAAA", "BBBBP5ASKED0", "OK WAIT|");
        b.say("PRI", "AAAA", "P5FIRST05", "OK|");
        b.say("PRI", "AAAA", "P9FIRST01", "OK|");
        b.say("ISS", "CBNK", "EURAAAA" + Bench.amount(6),
            "OK|SAAAAP1LATER0|SAAAAP9FIRST0|SAAAAP5SECOND|SAAAAP5THIRD0|SBBBBP5ASKED0|SAAAAP5FIRST0|");
        b.say("PRI", "AAAA", "P5FIRST05", "NO 11|");
        // PRI of one that is to be confirmed: its priority alone.
        b.sayAs("PAY", "BBBB", "ASKED100", "51" + Bench.leg("AAAA", "BBBB", "EUR", 1), "OK CONF|");
        b.sayAs("PAY", "AAAA", "WAITS000", "41" + Bench.leg("AAAA", "BBBB", "EUR", 1), "OK WAIT|");
        b.say("PRI", "AAAA", "ASKED1001", "NO 11|");
        b.say("PRI", "BBBB", "ASKED1001", "OK|");
        b.counts(6, 1);
        b.say("CNF", "AAAA", "BBBBASKED100", "OK WAIT|");
        b.say("ISS", "CBNK", "EURAAAA" + Bench.amount(1), "OK|SBBBBASKED100|");
    }

    private static void noneGoesPastOneThatTakesTheSame() {
        Bench b = Bench.open("none goes past");
        b.issue("EUR", "AAAA", 10);
        b.issue("USD", "AAAA", 10);
        b.sayAs("PAY", "AAAA", "BIG00000", "51" + Bench.leg("AAAA", "BBBB", "EUR", 11), "OK WAIT|");
        b.sayAs("PAY", "AAAA", "SMALL000", "51" + Bench.leg("AAAA", "BBBB", "EUR", 1), "OK WAIT|");
        b.sayAs("PAY", "AAAA", "OTHER000", "91" + Bench.leg("AAAA", "BBBB", "USD", 1), "OK DONE|SAAAAOTHER000|");
        b.sayAs("PAY", "AAAA", "URGENT00", "41" + Bench.leg("AAAA", "BBBB", "EUR", 1), "OK DONE|SAAAAURGENT00|");
        b.say("PRI", "AAAA", "BIG000005", "OK|SAAAASMALL000|");
        b.sayAs("PAY", "AAAA", "SMALL001", "51" + Bench.leg("AAAA", "BBBB", "EUR", 1), "OK WAIT|");
        // One that takes from another position, too, holds that one up.
        b.sayAs("PAY", "AAAA", "MIXED000", "52" + Bench.leg("AAAA", "BBBB", "EUR", 1) + Bench.leg("AAAA", "BBBB", "USD", 1), "OK WAIT|");
        b.sayAs("PAY", "AAAA", "OTHER001", "51" + Bench.leg("AAAA", "BBBB", "USD", 1), "OK WAIT|");
        b.sayAs("PAY", "AAAA", "OTHER002", "41" + Bench.leg("AAAA", "BBBB", "USD", 1), "OK DONE|SAAAAOTHER002|");
        b.say("CAN", "AAAA", "BIG00000", "OK|SAAAASMALL001|SAAAAMIXED000|SAAAAOTHER001|");
    }

    private static void givingUp() {
        Bench b = Bench.open("giving up");
        b.sayAs("PAY", "AAAA", "MINE0000", "51" + Bench.leg("AAAA", "BBBB", "EUR", 1), "OK WAIT|");
        b.sayAs("PAY", "AAAA", "ASKED000", "51" + Bench.leg("BBBB", "AAAA", "EUR", 1), "OK CONF|");
        b.say("CAN", "BBBB", "MINE0000", "NO 11|");
        b.say("CAN", "AAAA", "MINE0000", "OK|");
        b.say("CAN", "AAAA", "MINE0000", "NO 11|");
        b.say("CAN", "AAAA", "ASKED000", "OK|");
        b.counts(5, 0);
        b.counts(6, 0);
        b.say("PRI", "AAAA", "MINE00001", "NO 11|");
        b.sayAs("PAY", "AAAA", "MINE0000", "51" + Bench.leg("AAAA", "BBBB", "EUR", 1), "OK AGAIN|");
        b.counts(5, 0);
        b.sayAs("PAY", "AAAA", "MINE0000", "51" + Bench.leg("AAAA", "BBBB", "EUR", 2), "NO 06|");
        b.pass(800, "");
    }

    /** What one gives lets another settle; each time it begins anew from the first. */
    private static void settlingBehindAnother() {
        Bench b = Bench.open("chain");
        b.sayAs("PAY", "CCCC", "CD000000", "11" + Bench.leg("CCCC", "DDDD", "EUR", 5), "OK WAIT|");
        b.sayAs("PAY", "BBBB", "BC000000", "21" + Bench.leg("BBBB", "CCCC", "EUR", 5), "OK WAIT|");
        b.sayAs("PAY", "BBBB", "BA000000", "21" + Bench.leg("BBBB", "AAAA", "EUR", 1), "OK WAIT|");
        b.issue("EUR", "AAAA", 6);
        b.sayAs("PAY", "AAAA", "AB000000", "91" + Bench.leg("AAAA", "BBBB", "EUR", 6),
            "OK DONE|SAAAAAB000000|SBBBBBC000000|SCCCCCD000000|SBBBBBA000000|");
        b.holds(1, 0, 1);
        b.holds(4, 0, 5);
        b.sayAs("PAY", "DDDD", "DC000000", "11" + Bench.leg("DDDD", "CCCC", "EUR", 6), "OK WAIT|");
        b.sayAs("PAY", "AAAA", "AD000000", "11" + Bench.leg("AAAA", "DDDD", "EUR", 1), "OK DONE|SAAAAAD000000|SDDDDDC000000|");
    }

    private static void statements() {
        Bench b = Bench.open("statements");
        b.issue("USD", "AAAA", 999999999999999L);
        b.issue("EUR", "AAAA", 10);
        b.quietly("RED", "CBNK", "EURAAAA" + Bench.amount(10));
        b.say("STM", "AAAA", "", "OK|EUR 0 10 10 0 2|USD 0 0 999999999999999 999999999999999 1|");
        b.say("STM", "CBNK", "", "OK|EUR 0 10 10 0 2|USD 0 999999999999999 0 -999999999999999 1|");
        b.say("STM", "BBBB", "", "OK|");
        b.tick(1000);
        b.say("STM", "AAAA", "", "OK|USD 999999999999999 0 0 999999999999999 0|");
        b.say("STM", "CBNK", "", "OK|USD -999999999999999 0 0 -999999999999999 0|");
        b.say("PAY", "AAAA", "13" + Bench.leg("AAAA", "BBBB", "USD", 5) + Bench.leg("AAAA", "CCCC", "USD", 6)
            + Bench.leg("AAAA", "BBBB", "USD", 7), "OK DONE|SAAAAT0000016|");
        b.say("STM", "AAAA", "", "OK|USD 999999999999999 18 0 999999999999981 1|");
        b.say("STM", "BBBB", "", "OK|USD 0 0 12 12 1|");
        b.tick(1000);
        b.say("PAY", "BBBB", "11" + Bench.leg("BBBB", "AAAA", "USD", 12), "OK DONE|SBBBBT0000019|");
        b.say("STM", "BBBB", "", "OK|USD 12 12 0 0 1|");
        b.tick(1000);
        b.say("STM", "BBBB", "", "OK|");
        // In the order in which the assets came, whatever their codes.
        b.quietly("AST", "CBNK", "AAAC" + Bench.amount(0) + "00");
        b.issue("AAA", "BBBB", 1);
        b.issue("EUR", "BBBB", 2);
        b.say("STM", "BBBB", "", "OK|EUR 0 0 2 2 1|AAA 0 0 1 1 1|");
    }
}
