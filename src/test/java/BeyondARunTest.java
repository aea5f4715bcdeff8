/**
 * The limits that no run of 512 calls reaches. What later calls answer is free, but the code that keeps these limits is
 * there, and no call may throw or leave what the document says of a position: so it is looked at here.
 */
public final class BeyondARunTest {
    private static final String NIL = Bench.amount(0);
    private static final String ONE = Bench.amount(1);
    private static final long LARGEST = 999999999999999L;

    public static void main(String[] args) {
        the256thParticipant();
        at250Instructions();
        at250ToBeConfirmed();
        at2000MessagesADay();
        the2001stLimit();
        belowWhatTheBankMayGive();
        largestSums();
        Bench.finish();
    }

    /** "At most 255 others", "12: a 256th participant" */
    private static void the256thParticipant() {
        Bench b = Bench.endless("participants");
        for (int i = 0; i < 255; i++) {
            b.sayAs("NEW", "CBNK", "SENT0" + (100 + i), "P" + (100 + i), "OK|");
        }
        b.counts(3, 256);
        b.say("NEW", "CBNK", "LAST", "NO 12|");
        b.say("NEW", "CBNK", "P354", "NO 08|");
        b.say("NEW", "CBNK", "CBNK", "NO 08|");
        b.sayAs("NEW", "CBNK", "SENT0354", "P354", "OK AGAIN|");
        b.sayAs("NEW", "CBNK", "SENT0354", "LAST", "NO 06|");
        b.say("STM", "LAST", "", "NO 02|");
        b.counts(3, 256);
        b.say("AST", "CBNK", "EURC" + NIL + "00", "OK|");
        b.tick(100);
        b.issue("EUR", "P354", 7);
        b.holds(255, 0, 7);
        b.holds(256, 0, 0);
        b.say("PAY", "P354", "11" + Bench.leg("P354", "P100", "EUR", 7), "OK DONE|SP354T0000007|");
        b.holds(1, 0, 7);
        // 20 + 4 * 256 + 14 + 2 * 12 are 1082 bytes.
        b.tick(1000);
        int written = b.count(9);
        b.tick(1000);
        b.counts(9, written + 1 + 3 + 1);
    }

    /** "12: at most 250 that are not over (looked at ahead of settling it)" */
    private static void at250Instructions() {
        Bench b = Bench.furnish(Bench.endless("queued"));
        b.tick(100);
        b.issue("USD", "AAAA", 5);
        String leg = Bench.leg("AAAA", "BBBB", "EUR", 1);
        for (int i = 0; i < 250; i++) {
            b.sayAs("PAY", "AAAA", "SENT0" + (100 + i), "9" + "1" + leg, "OK WAIT|");
        }
        b.counts(5, 250);
        String usd = "11" + Bench.leg("AAAA", "BBBB", "USD", 1);
        b.say("PAY", "AAAA", usd, "NO 12|");
        b.say("PAY", "AAAA", "11" + Bench.leg("AAAA", "AAAA", "USD", 1), "NO 08|");
        b.sayAs("PAY", "AAAA", "SENT0100", "91" + leg, "OK AGAIN|");
        b.say("PRI", "AAAA", "SENT01001", "OK|");
        b.say("CAN", "AAAA", "SENT0100", "OK|");
        b.say("PAY", "AAAA", usd, "OK DONE|SAAAAT0000013|");
        b.sayAs("PAY", "BBBB", "RING0000", "91" + Bench.leg("BBBB", "AAAA", "EUR", 249), "OK WAIT|");
        b.say("PAY", "AAAA", usd, "NO 12|");
        // All of them settle at once, or one after the other.
        StringBuilder lines = new StringBuilder("OK|");
        for (int i = 1; i < 250; i++) {
            lines.append("SAAAASENT0" + (100 + i) + "|");
        }
        b.say("RES", "CBNK", "", lines + "SBBBBRING0000|");
        b.counts(5, 0);
        b.say("PAY", "AAAA", usd, "OK DONE|SAAAAT0000016|");
    }

    /** "12: at most 250 that are not over": those to be confirmed are such, too; and all are sent back */
    private static void at250ToBeConfirmed() {
        Bench b = Bench.furnish(Bench.endless("to be confirmed"));
        b.tick(100);
        String leg = Bench.leg("BBBB", "AAAA", "EUR", 1);
        for (int i = 0; i < 249; i++) {
            b.sayAs("PAY", "AAAA", "SENT0" + (100 + i), "91" + leg, "OK CONF|");
        }
        b.say("PAY", "AAAA", "11" + Bench.leg("AAAA", "BBBB", "EUR", 1), "OK WAIT|");
        b.counts(6, 249);
        b.counts(5, 1);
        b.say("PAY", "AAAA", "91" + leg, "NO 12|");
        b.say("CNF", "BBBB", "AAAASENT0348", "OK WAIT|");
        b.say("CNF", "BBBB", "AAAASENT0347", "OK WAIT|");
        StringBuilder lines = new StringBuilder("SAAAAT0000008|SAAAASENT0348|BAAAASENT0347|");
        for (int i = 0; i < 247; i++) {
            lines.append("BAAAASENT0" + (100 + i) + "|");
        }
        b.pass(800, lines.toString());
        b.counts(5, 0);
        b.counts(6, 0);
    }

    /** "There are at most 2000 such messages a day: else 12 (this is looked at ahead of 08)." */
    private static void at2000MessagesADay() {
        Bench b = Bench.furnish(Bench.endless("messages"));
        b.tick(100);
        for (int i = 7; i < 2000; i++) {
            b.sayAs("LIM", "AAAA", "SENT" + (1000 + i), "BBBB" + Bench.amount(i), "OK|");
        }
        b.sayAs("LIM", "AAAA", "LAST0000", "BBBB" + ONE, "NO 12|");
        b.say("NEW", "CBNK", "AAAA", "NO 12|");
        b.say("CAN", "AAAA", "NOTHING0", "NO 12|");
        b.say("RED", "CBNK", "EURAAAA" + ONE, "NO 12|");
        b.say("LIM", "AAAA", "XXXX" + ONE, "NO 04|");
        b.sayAs("LIM", "AAAA", "SENT2999", "BBBB" + ONE, "NO 06|");
        b.sayAs("LIM", "AAAA", "SENT2999", "BBBB" + Bench.amount(1999), "OK AGAIN|");
        b.say("STM", "AAAA", "", "OK|");
        b.say("RES", "CBNK", "", "OK|");
        b.tick(899);
        b.say("CAN", "AAAA", "NOTHING0", "NO 07|");
        b.sayAs("LIM", "AAAA", "LAST0000", "BBBB" + ONE, "NO 12|");
        b.tick(1);
        b.sayAs("LIM", "AAAA", "LAST0000", "BBBB" + ONE, "OK|");
    }

    /** "12: .. a 2001st limit (one in another's place is no more)" */
    private static void the2001stLimit() {
        Bench b = Bench.endless("limits");
        for (int i = 0; i < 46; i++) {
            b.quietly("NEW", "CBNK", "PP" + (10 + i));
        }
        b.tick(1000);
        int limits = 0;
        for (int i = 0; i < 46; i++) {
            for (int j = 0; j < 46; j++) {
                if (i == j) {
                    continue;
                }
                if (limits == 1000) {
                    b.tick(1000);
                }
                b.say("LIM", "PP" + (10 + i), "PP" + (10 + j) + Bench.amount(limits % 2), limits < 2000 ? "OK|" : "NO 12|");
                limits++;
            }
        }
        b.tick(1000);
        b.say("LIM", "PP10", "PP11" + Bench.amount(5), "OK|");
        b.say("LIM", "PP55", "PP54" + Bench.amount(5), "NO 12|");
        b.say("LIM", "PP55", "PP55" + Bench.amount(5), "NO 08|");
        b.say("UNL", "PP10", "PP11", "OK|");
        b.say("LIM", "PP55", "PP54" + Bench.amount(5), "OK|");
        b.say("LIM", "PP10", "PP11" + Bench.amount(5), "NO 12|");
        // 20 + 4 * 47 + 12 * 2000 are 24208 bytes.
        b.tick(1000);
        int written = b.count(9);
        b.tick(1000);
        b.counts(9, written + 1 + 49 + 1);
    }

    /** "10: ISS: the bank's position would be below -4 * 10 ^ 18" */
    private static void belowWhatTheBankMayGive() {
        Bench b = Bench.furnish(Bench.endless("what the bank may give"));
        b.tick(100);
        for (int i = 0; i < 4000; i++) {
            if (i % 1900 == 1899) {
                b.tick(1000);
            }
            b.say("ISS", "CBNK", "USD" + (i % 2 == 0 ? "AAAA" : "BBBB") + Bench.amount(LARGEST), "OK|");
        }
        b.tick(1000);
        b.holds(0, 1, -3999999999999996000L);
        b.say("ISS", "CBNK", "USDAAAA" + Bench.amount(4001), "NO 10|");
        b.say("ISS", "CBNK", "USDAAAA" + Bench.amount(LARGEST), "NO 10|");
        b.say("ISS", "CBNK", "USDAAAA" + Bench.amount(4000), "OK|");
        b.holds(0, 1, -4000000000000000000L);
        b.say("ISS", "CBNK", "USDBBBB" + ONE, "NO 10|");
        b.say("ISS", "CBNK", "USDCBNK" + ONE, "NO 08|");
        b.say("ISS", "CBNK", "EURBBBB" + ONE, "OK|");
        b.say("RED", "CBNK", "USDAAAA" + ONE, "OK|");
        b.say("ISS", "CBNK", "USDBBBB" + Bench.amount(2), "NO 10|");
        b.say("ISS", "CBNK", "USDBBBB" + ONE, "OK|");
        b.say("STM", "CBNK", "", "OK|EUR 0 1 0 -1 1|USD -3999999999999996000 4001 1 -4000000000000000000 3|");
    }

    /** As much as can be in one hand: 4 * 10 ^ 18 that the bank gave and as much that others have as credit, and 250 that wait. */
    private static void largestSums() {
        Bench b = Bench.furnish(Bench.endless("largest sums"));
        b.quietly("PRC", "CBNK", "BND" + Bench.amount(4000000000000L) + "00");
        b.tick(100);
        b.issue("BND", "BBBB", 1000000);
        b.quietly("PLG", "BBBB", "BND" + Bench.amount(1000000));
        for (int i = 0; i < 4000; i++) {
            if (i % 1900 == 1899) {
                b.tick(1000);
            }
            b.quietly("ISS", "CBNK", "EURAAAA" + Bench.amount(LARGEST));
        }
        String four = Bench.leg("BBBB", "AAAA", "EUR", LARGEST).repeat(4);
        for (int i = 0; i < 1000; i++) {
            b.quietly("PAY", "BBBB", "14" + four);
        }
        b.holds(1, 0, 8000 * LARGEST);
        b.holds(2, 0, -4000 * LARGEST);
        // All that wait give to the one who has the most: no sum on the way leaves what it can hold.
        for (int i = 0; i < 250; i++) {
            b.quietly("PAY", "CCCC", "14" + Bench.leg("CCCC", "AAAA", "EUR", LARGEST).repeat(4));
        }
        b.say("RES", "CBNK", "", "OK|");
        b.counts(5, 250);
        b.holds(1, 0, 8000 * LARGEST);
    }
}
