/** The edges of the document's POSITIONS: a method for each sentence, which stands above it. */
public final class PositionEdgesTest {
    private static final long LARGEST = 999999999999999L;

    public static void main(String[] args) {
        exactInAllItsSums();
        sumsAreNothing();
        theBankHasNoFloor();
        nothingIsTheFloor();
        creditIsTheFloor();
        roundedDown();
        roundedDownThenSummedUp();
        creditOfNothing();
        creditFromBeforeThereWasACurrency();
        largestCredit();
        pledgedIsAtMostThePosition();
        pledgedIsAFloor();
        roomToItsEnd();
        roomOfNothing();
        roomIsOfThePairAndItsWay();
        paidSinceTheDayBegan();
        alsoWhileThereIsNoCurrencyYet();
        noLimitAnyMore();
        newAndAstCanNotBe();
        issAndRedCanNotBe();
        payCanNotBe();
        limCanNotBe();
        unlCanNotBe();
        plgAndUnpCanNotBe();
        prcCanNotBe();
        cnfCanNotBe();
        redBelowTheFloor();
        plgBelowTheFloor();
        unpBelowTheFloor();
        prcBelowTheFloor();
        limBelowTheFloor();
        plgTooLarge();
        prcTooLarge();
        theSixtyFifthAsset();
        aLimitInAnothersPlace();
        Bench.finish();
    }

    private static String of(String asset, long n) {
        return asset + Bench.amount(n);
    }

    private static String pay(String from, String to, String asset, long n) {
        return "11" + Bench.leg(from, to, asset, n);
    }

    /** "an amount in all its sums exact; at first 0" */
    private static void exactInAllItsSums() {
        Bench b = Bench.open("exact");
        for (int p = 0; p < 5; p++) {
            for (int a = 0; a < 3; a++) {
                b.holds(p, a, 0);
            }
        }
        long sum = 0;
        for (int i = 0; i < 60; i++) {
            b.issue("EUR", "AAAA", LARGEST - i);
            sum += LARGEST - i;
        }
        b.holds(1, 0, sum);
        b.holds(0, 0, -sum);
        // 4 legs of the largest amount in one net: above what fifteen digits hold.
        String leg = Bench.leg("AAAA", "BBBB", "EUR", LARGEST);
        b.say("PAY", "AAAA", "14" + leg.repeat(4), "OK DONE|SAAAAT0000068|");
        b.holds(2, 0, 4 * LARGEST);
        b.say("STM", "AAAA", "", "OK|EUR 0 " + 4 * LARGEST + " " + sum + " " + (sum - 4 * LARGEST) + " 61|");
        b.say("STM", "CBNK", "", "OK|EUR 0 " + sum + " 0 -" + sum + " 60|");
    }

    /** "What the bank gives makes the bank's own position less: the sum of all positions in an asset is 0." */
    private static void sumsAreNothing() {
        Bench b = Bench.open("sum");
        b.issue("EUR", "AAAA", 10);
        b.holds(0, 0, -10);
        b.issue("BND", "BBBB", 7);
        b.quietly("PLG", "BBBB", of("BND", 7));
        b.quietly("PAY", "BBBB", pay("BBBB", "CCCC", "EUR", 630));
        b.quietly("RED", "CBNK", "EURCCCC" + Bench.amount(600));
        b.holds(0, 0, 590);
        for (int a = 0; a < 3; a++) {
            long sum = 0;
            for (int p = 0; p < 5; p++) {
                sum += b.position(p, a);
            }
            b.is("sum of " + a, sum, 0L);
        }
    }

    /** "FLOORS: the bank has none" */
    private static void theBankHasNoFloor() {
        Bench b = Bench.open("no floor");
        b.say("ISS", "CBNK", "EURAAAA" + Bench.amount(LARGEST), "OK|");
        b.say("ISS", "CBNK", "BNDAAAA" + Bench.amount(LARGEST), "OK|");
        b.say("ISS", "CBNK", "USDAAAA" + Bench.amount(1), "OK|");
        b.holds(0, 0, -LARGEST);
        b.holds(0, 2, -LARGEST);
        b.say("PRC", "CBNK", of("BND", 0) + "99", "OK|");
    }

    /** "a participant 0" */
    private static void nothingIsTheFloor() {
        Bench b = Bench.open("floor of 0");
        for (String asset : new String[] {"EUR", "USD", "BND"}) {
            b.say("PAY", "AAAA", pay("AAAA", "BBBB", asset, 1), "OK WAIT|");
            b.say("RED", "CBNK", asset + "AAAA" + Bench.amount(1), "NO 09|");
        }
        b.say("ISS", "CBNK", "USDAAAA" + Bench.amount(1), "OK|SAAAAT0000010|");
        b.holds(1, 1, 0);
        b.say("RED", "CBNK", "USDBBBB" + Bench.amount(2), "NO 09|");
        b.say("RED", "CBNK", "USDBBBB" + Bench.amount(1), "OK|");
        b.holds(2, 1, 0);
    }

    /** "but in the first currency less its CREDIT" */
    private static void creditIsTheFloor() {
        Bench b = Bench.open("credit");
        b.issue("BND", "AAAA", 1);
        b.quietly("PLG", "AAAA", of("BND", 1));
        // 1 * 100 * 90 / 100
        b.say("PAY", "AAAA", pay("AAAA", "BBBB", "EUR", 91), "OK WAIT|");
        b.quietly("CAN", "AAAA", "T0000010");
        b.say("PAY", "AAAA", pay("AAAA", "BBBB", "EUR", 90), "OK DONE|SAAAAT0000012|");
        b.holds(1, 0, -90);
        b.say("RED", "CBNK", "EURAAAA" + Bench.amount(1), "NO 09|");
        b.say("PAY", "AAAA", pay("AAAA", "BBBB", "USD", 1), "OK WAIT|");
        b.say("RED", "CBNK", "USDAAAA" + Bench.amount(1), "NO 09|");
        // What another one has pledged is no credit of theirs.
        b.say("RED", "CBNK", "EURCCCC" + Bench.amount(1), "NO 09|");
        b.say("PAY", "CCCC", pay("CCCC", "DDDD", "EUR", 1), "OK WAIT|");
    }

    /** "for each security pledged * price * (100 - haircut) / 100, rounded down" */
    private static void roundedDown() {
        // pledged, price, haircut, credit
        long[][] rows = {{1, 1, 0, 1}, {1, 1, 1, 0}, {1, 1, 99, 0}, {99, 1, 99, 0}, {100, 1, 99, 1}, {199, 1, 99, 1}, {1, 199, 50, 99},
            {3, 33, 33, 66}, {7, 0, 0, 0}, {123456789, 987654321, 57, 52431031378433165L}, {LARGEST, 1, 1, 989999999999999L},
            {1, LARGEST, 99, 9999999999999L}, {LARGEST, 3, 77, 689999999999999L}};
        for (long[] row : rows) {
            Bench b = Bench.open("rounded " + row[3]);
            b.quietly("PRC", "CBNK", of("BND", row[1]) + String.format("%02d", row[2]));
            b.issue("BND", "AAAA", row[0]);
            b.quietly("PLG", "AAAA", of("BND", row[0]));
            long left = row[3];
            while (left > 0) {
                long part = Math.min(left, LARGEST);
                b.say("RED", "CBNK", "EURAAAA" + Bench.amount(part), "OK|");
                left -= part;
            }
            b.holds(1, 0, -row[3]);
            b.say("RED", "CBNK", "EURAAAA" + Bench.amount(1), "NO 09|");
        }
    }

    /** "rounded down, summed up" */
    private static void roundedDownThenSummedUp() {
        Bench b = Bench.open("summed up");
        for (String asset : new String[] {"SH1", "SH2", "SH3", "SH4"}) {
            b.quietly("AST", "CBNK", asset + "S" + Bench.amount(1) + "01");
            b.issue(asset, "AAAA", 50);
            b.quietly("PLG", "AAAA", of(asset, 50));
        }
        // 49 and a half four times: 196, and not the 198 of the sum.
        b.say("RED", "CBNK", "EURAAAA" + Bench.amount(197), "NO 09|");
        b.say("RED", "CBNK", "EURAAAA" + Bench.amount(196), "OK|");
        // Pledged in parts it is one amount: 25 and 25 of one security are 49 and not twice 24.
        Bench parts = Bench.open("in parts");
        parts.quietly("PRC", "CBNK", of("BND", 1) + "01");
        parts.issue("BND", "AAAA", 50);
        parts.quietly("PLG", "AAAA", of("BND", 25));
        parts.quietly("PLG", "AAAA", of("BND", 25));
        parts.say("RED", "CBNK", "EURAAAA" + Bench.amount(50), "NO 09|");
        parts.say("RED", "CBNK", "EURAAAA" + Bench.amount(49), "OK|");
    }

    /** A price of 0, or nothing pledged any more, gives no credit. */
    private static void creditOfNothing() {
        Bench b = Bench.open("of nothing");
        b.issue("BND", "AAAA", 10);
        b.say("RED", "CBNK", "EURAAAA" + Bench.amount(1), "NO 09|");
        b.quietly("PLG", "AAAA", of("BND", 10));
        b.quietly("PRC", "CBNK", of("BND", 0) + "00");
        b.say("RED", "CBNK", "EURAAAA" + Bench.amount(1), "NO 09|");
        b.quietly("PRC", "CBNK", of("BND", 1) + "00");
        b.say("UNP", "AAAA", of("BND", 10), "OK|");
        b.say("RED", "CBNK", "EURAAAA" + Bench.amount(1), "NO 09|");
        b.say("PLG", "AAAA", of("BND", 1), "OK|");
        b.say("RED", "CBNK", "EURAAAA" + Bench.amount(1), "OK|");
    }

    /** "in the first currency less its CREDIT": also by what was pledged before there was one */
    private static void creditFromBeforeThereWasACurrency() {
        Bench b = new Bench("before there was a currency");
        b.quietly("AST", "CBNK", "BNDS" + Bench.amount(100) + "10");
        b.quietly("NEW", "CBNK", "AAAA");
        b.quietly("NEW", "CBNK", "BBBB");
        b.tick(100);
        b.issue("BND", "AAAA", 2);
        b.say("PLG", "AAAA", of("BND", 2), "OK|");
        // Without a first currency no price and no pledge is too low.
        b.say("PRC", "CBNK", of("BND", 0) + "00", "OK|");
        b.say("PRC", "CBNK", of("BND", 100) + "10", "OK|");
        b.say("UNP", "AAAA", of("BND", 1), "OK|");
        b.quietly("AST", "CBNK", "EURC" + Bench.amount(0) + "00");
        b.say("RED", "CBNK", "EURAAAA" + Bench.amount(91), "NO 09|");
        b.say("PAY", "AAAA", pay("AAAA", "BBBB", "EUR", 91), "OK WAIT|");
        b.quietly("CAN", "AAAA", "T0000011");
        b.say("PAY", "AAAA", pay("AAAA", "BBBB", "EUR", 90), "OK DONE|SAAAAT0000013|");
        b.say("UNP", "AAAA", of("BND", 1), "NO 09|");
    }

    /** The floor stays exact where the credit is as large as can be: 4 * 10 ^ 18 and four pays of the largest amount. */
    private static void largestCredit() {
        Bench b = Bench.open("largest credit");
        b.quietly("PRC", "CBNK", of("BND", 4000000000000L) + "00");
        b.issue("BND", "AAAA", 1000000);
        b.say("PLG", "AAAA", of("BND", 1000000), "OK|");
        String leg = Bench.leg("AAAA", "BBBB", "EUR", LARGEST);
        for (int i = 0; i < 20; i++) {
            b.quietly("PAY", "AAAA", "14" + leg.repeat(4));
        }
        b.holds(1, 0, -80 * LARGEST);
        b.holds(2, 0, 80 * LARGEST);
        // 80 * 999999999999999 are 79999999999999920: the price can fall to 79999999999.99992, so to 80000000000.
        b.say("PRC", "CBNK", of("BND", 79999999999L) + "00", "NO 09|");
        b.say("PRC", "CBNK", of("BND", 80000000000L) + "00", "OK|");
        b.say("RED", "CBNK", "EURAAAA" + Bench.amount(81), "NO 09|");
        b.say("RED", "CBNK", "EURAAAA" + Bench.amount(80), "OK|");
        b.holds(1, 0, -80000000000000000L);
    }

    /** "A pledge is of what is there: pledged is at most the position, always" */
    private static void pledgedIsAtMostThePosition() {
        Bench b = Bench.open("at most");
        b.say("PLG", "AAAA", of("BND", 1), "NO 09|");
        b.issue("BND", "AAAA", 3);
        b.say("PLG", "AAAA", of("BND", 4), "NO 09|");
        b.say("PLG", "AAAA", of("BND", 3), "OK|");
        b.say("PLG", "AAAA", of("BND", 1), "NO 09|");
        b.issue("BND", "AAAA", 1);
        b.say("PLG", "AAAA", of("BND", 2), "NO 09|");
        b.say("PLG", "AAAA", of("BND", 1), "OK|");
        b.say("UNP", "AAAA", of("BND", 4), "OK|");
        b.say("PLG", "AAAA", of("BND", 5), "NO 09|");
        b.say("PLG", "AAAA", of("BND", 4), "OK|");
    }

    /** "(the floor of a participant in a security is what it has pledged)" */
    private static void pledgedIsAFloor() {
        Bench b = Bench.open("pledged");
        b.issue("BND", "AAAA", 10);
        b.quietly("PLG", "AAAA", of("BND", 6));
        b.say("RED", "CBNK", "BNDAAAA" + Bench.amount(5), "NO 09|");
        b.say("RED", "CBNK", "BNDAAAA" + Bench.amount(1), "OK|");
        b.say("PAY", "AAAA", pay("AAAA", "BBBB", "BND", 4), "OK WAIT|");
        b.quietly("CAN", "AAAA", "T0000012");
        b.say("PAY", "AAAA", pay("AAAA", "BBBB", "BND", 3), "OK DONE|SAAAAT0000014|");
        b.holds(1, 2, 6);
        b.say("PAY", "AAAA", pay("AAAA", "BBBB", "BND", 1), "OK WAIT|");
        b.say("RES", "CBNK", "", "OK|");
        b.say("UNP", "AAAA", of("BND", 1), "OK|SAAAAT0000015|");
        b.holds(1, 2, 5);
        // On the next day it is still pledged.
        b.pass(1000, "");
        b.say("RED", "CBNK", "BNDAAAA" + Bench.amount(1), "NO 09|");
    }

    /** "ROOM: the limit, less what p paid q in the first currency since the day began, and as much more as q paid p; its floor is 0." */
    private static void roomToItsEnd() {
        Bench b = rich("room");
        b.quietly("LIM", "AAAA", of("BBBB", 10));
        b.say("PAY", "AAAA", pay("AAAA", "BBBB", "EUR", 11), "OK WAIT|");
        b.quietly("CAN", "AAAA", "T0000013");
        b.say("PAY", "AAAA", pay("AAAA", "BBBB", "EUR", 10), "OK DONE|SAAAAT0000015|");
        b.say("PAY", "AAAA", pay("AAAA", "BBBB", "EUR", 5), "OK WAIT|");
        b.say("PAY", "BBBB", pay("BBBB", "AAAA", "EUR", 4), "OK DONE|SBBBBT0000017|");
        b.say("PAY", "BBBB", pay("BBBB", "AAAA", "EUR", 1), "OK DONE|SBBBBT0000018|SAAAAT0000016|");
        // As much more: above the limit, too.
        b.say("PAY", "BBBB", pay("BBBB", "AAAA", "EUR", 50), "OK DONE|SBBBBT0000019|");
        b.say("PAY", "AAAA", pay("AAAA", "BBBB", "EUR", 51), "OK WAIT|");
        b.quietly("CAN", "AAAA", "T0000020");
        b.say("PAY", "AAAA", pay("AAAA", "BBBB", "EUR", 50), "OK DONE|SAAAAT0000022|");
        b.say("PAY", "AAAA", pay("AAAA", "BBBB", "EUR", 1), "OK WAIT|");
    }

    private static Bench rich(String name) {
        Bench b = Bench.open(name);
        for (String code : new String[] {"AAAA", "BBBB", "CCCC", "DDDD"}) {
            b.issue("EUR", code, 1000);
        }
        return b;
    }

    /** "the amount may be 0" */
    private static void roomOfNothing() {
        Bench b = rich("limit of 0");
        b.say("LIM", "AAAA", of("BBBB", 0), "OK|");
        b.say("PAY", "AAAA", pay("AAAA", "BBBB", "EUR", 1), "OK WAIT|");
        b.say("PAY", "BBBB", pay("BBBB", "AAAA", "EUR", 1), "OK DONE|SBBBBT0000014|SAAAAT0000013|");
        b.say("LIM", "AAAA", of("BBBB", 0), "OK|");
        b.say("UNL", "AAAA", "BBBB", "OK|");
    }

    /** A limit is of one towards another one: not of these two the other way, nor of others, nor in other assets. */
    private static void roomIsOfThePairAndItsWay() {
        Bench b = rich("of the pair");
        b.issue("USD", "AAAA", 5);
        b.issue("BND", "AAAA", 5);
        b.quietly("LIM", "AAAA", of("BBBB", 0));
        b.say("PAY", "AAAA", pay("AAAA", "BBBB", "USD", 5), "OK DONE|SAAAAT0000015|");
        b.say("PAY", "AAAA", pay("AAAA", "BBBB", "BND", 5), "OK DONE|SAAAAT0000016|");
        b.say("PAY", "AAAA", pay("AAAA", "CCCC", "EUR", 5), "OK DONE|SAAAAT0000017|");
        b.say("PAY", "CCCC", pay("CCCC", "BBBB", "EUR", 5), "OK DONE|SCCCCT0000018|");
        b.say("PAY", "CCCC", pay("CCCC", "AAAA", "EUR", 7), "OK DONE|SCCCCT0000019|");
        // What BBBB gave in another asset, or CCCC in EUR, gives no room.
        b.say("PAY", "BBBB", pay("BBBB", "AAAA", "USD", 5), "OK DONE|SBBBBT0000020|");
        b.say("PAY", "AAAA", pay("AAAA", "BBBB", "EUR", 1), "OK WAIT|");
    }

    /** "since the day began": also what was paid before the limit was set, but nothing of another day */
    private static void paidSinceTheDayBegan() {
        Bench b = rich("since the day began");
        b.quietly("PAY", "AAAA", pay("AAAA", "BBBB", "EUR", 5));
        b.say("LIM", "AAAA", of("BBBB", 6), "OK|");
        b.say("PAY", "AAAA", pay("AAAA", "BBBB", "EUR", 2), "OK WAIT|");
        b.quietly("CAN", "AAAA", "T0000014");
        b.say("PAY", "AAAA", pay("AAAA", "BBBB", "EUR", 1), "OK DONE|SAAAAT0000016|");
        b.tick(899);
        b.say("LIM", "AAAA", of("BBBB", 5), "NO 09|");
        b.tick(1);
        b.say("LIM", "AAAA", of("BBBB", 5), "OK|");
        b.tick(100);
        b.say("PAY", "BBBB", pay("BBBB", "AAAA", "EUR", 1), "OK DONE|SBBBBT0000019|");
        b.say("PAY", "AAAA", pay("AAAA", "BBBB", "EUR", 7), "OK WAIT|");
        b.quietly("CAN", "AAAA", "T0000020");
        b.say("PAY", "AAAA", pay("AAAA", "BBBB", "EUR", 6), "OK DONE|SAAAAT0000022|");
        // What came more than went is of that day alone, too.
        b.say("PAY", "BBBB", pay("BBBB", "AAAA", "EUR", 99), "OK DONE|SBBBBT0000023|");
        b.tick(1000);
        b.say("PAY", "AAAA", pay("AAAA", "BBBB", "EUR", 6), "OK WAIT|");
    }

    /** "(in the first currency; also while there is none yet; the amount may be 0)" */
    private static void alsoWhileThereIsNoCurrencyYet() {
        Bench b = new Bench("no currency yet");
        b.quietly("NEW", "CBNK", "AAAA");
        b.quietly("NEW", "CBNK", "BBBB");
        b.say("LIM", "AAAA", of("BBBB", 0), "OK|");
        b.say("LIM", "AAAA", of("BBBB", 3), "OK|");
        b.say("LIM", "BBBB", of("AAAA", 3), "OK|");
        b.say("UNL", "BBBB", "AAAA", "OK|");
        b.say("UNL", "BBBB", "AAAA", "NO 08|");
        b.quietly("AST", "CBNK", "SHRS" + Bench.amount(1) + "00");
        b.tick(100);
        b.issue("SHR", "AAAA", 9);
        b.say("PAY", "AAAA", pay("AAAA", "BBBB", "SHR", 9), "OK DONE|SAAAAT0000010|");
        b.quietly("AST", "CBNK", "EURC" + Bench.amount(0) + "00");
        b.issue("EUR", "AAAA", 9);
        b.say("PAY", "AAAA", pay("AAAA", "BBBB", "EUR", 4), "OK WAIT|");
        b.quietly("CAN", "AAAA", "T0000013");
        b.say("PAY", "AAAA", pay("AAAA", "BBBB", "EUR", 3), "OK DONE|SAAAAT0000015|");
    }

    /** "UNL code: no limit any more" */
    private static void noLimitAnyMore() {
        Bench b = rich("no limit any more");
        b.quietly("LIM", "AAAA", of("BBBB", 0));
        b.quietly("LIM", "AAAA", of("CCCC", 0));
        b.say("PAY", "AAAA", pay("AAAA", "BBBB", "EUR", 5), "OK WAIT|");
        b.say("UNL", "AAAA", "BBBB", "OK|SAAAAT0000014|");
        b.say("PAY", "AAAA", pay("AAAA", "BBBB", "EUR", 900), "OK DONE|SAAAAT0000016|");
        b.say("PAY", "AAAA", pay("AAAA", "CCCC", "EUR", 1), "OK WAIT|");
        // It is gone on the next day, too, and the other one is not.
        b.pass(1000, "BAAAAT0000017|");
        b.say("PAY", "AAAA", pay("AAAA", "BBBB", "EUR", 90), "OK DONE|SAAAAT0000018|");
        b.say("PAY", "AAAA", pay("AAAA", "CCCC", "EUR", 1), "OK WAIT|");
    }

    /** "08: NEW, AST: there is one of that code." */
    private static void newAndAstCanNotBe() {
        Bench b = Bench.ready("NEW and AST");
        for (String code : new String[] {"CBNK", "AAAA", "DDDD"}) {
            b.say("NEW", "CBNK", code, "NO 08|");
        }
        for (String code : new String[] {"EUR", "USD", "BND"}) {
            b.say("AST", "CBNK", code + "C" + Bench.amount(0) + "00", "NO 08|");
            b.say("AST", "CBNK", code + "S" + Bench.amount(1) + "01", "NO 08|");
        }
        b.say("NEW", "CBNK", "EUR0", "OK|");
        b.say("AST", "CBNK", "AAAC" + Bench.amount(0) + "00", "OK|");
        b.counts(3, 6);
        b.counts(4, 4);
    }

    /** "ISS, RED: to or from the bank, or amount 0." */
    private static void issAndRedCanNotBe() {
        Bench b = Bench.open("ISS and RED");
        for (String kind : new String[] {"ISS", "RED"}) {
            b.say(kind, "CBNK", "EURCBNK" + Bench.amount(1), "NO 08|");
            b.say(kind, "CBNK", "EURAAAA" + Bench.amount(0), "NO 08|");
            b.say(kind, "CBNK", "BNDCBNK" + Bench.amount(0), "NO 08|");
        }
        b.say("ISS", "CBNK", "EURAAAA" + Bench.amount(1), "OK|");
        b.say("RED", "CBNK", "EURAAAA" + Bench.amount(1), "OK|");
    }

    /** "PAY: a leg from or to the bank, or from and to the same, or amount 0." */
    private static void payCanNotBe() {
        String[] wrong = {Bench.leg("CBNK", "AAAA", "EUR", 1), Bench.leg("AAAA", "CBNK", "EUR", 1), Bench.leg("CBNK", "CBNK", "EUR", 1),
            Bench.leg("AAAA", "AAAA", "EUR", 1), Bench.leg("BBBB", "BBBB", "BND", 1), Bench.leg("AAAA", "BBBB", "EUR", 0)};
        String right = Bench.leg("AAAA", "BBBB", "EUR", 1);
        for (String leg : wrong) {
            Bench b = Bench.open("PAY");
            for (int many = 1; many <= 4; many++) {
                for (int place = 0; place < many; place++) {
                    b.say("PAY", "AAAA", "1" + many + right.repeat(place) + leg + right.repeat(many - place - 1), "NO 08|");
                }
            }
            b.say("PAY", "CBNK", "11" + leg, "NO 08|");
            b.counts(5, 0);
            b.counts(6, 0);
        }
    }

    /** "LIM: towards oneself or the bank, or of the bank." */
    private static void limCanNotBe() {
        Bench b = Bench.open("LIM");
        b.say("LIM", "AAAA", of("AAAA", 1), "NO 08|");
        b.say("LIM", "AAAA", of("CBNK", 1), "NO 08|");
        b.say("LIM", "CBNK", of("AAAA", 1), "NO 08|");
        b.say("LIM", "CBNK", of("CBNK", 1), "NO 08|");
        b.say("LIM", "AAAA", of("AAAA", 0), "NO 08|");
        b.say("LIM", "AAAA", of("BBBB", 1), "OK|");
    }

    /** "UNL: there is none." */
    private static void unlCanNotBe() {
        Bench b = Bench.open("UNL");
        for (String code : new String[] {"AAAA", "BBBB", "CBNK"}) {
            b.say("UNL", "AAAA", code, "NO 08|");
            b.say("UNL", "CBNK", code, "NO 08|");
        }
        b.issue("EUR", "AAAA", 5);
        b.quietly("PAY", "AAAA", pay("AAAA", "BBBB", "EUR", 5));
        b.say("UNL", "AAAA", "BBBB", "NO 08|");
        b.quietly("LIM", "AAAA", of("BBBB", 5));
        b.say("UNL", "BBBB", "AAAA", "NO 08|");
        b.say("UNL", "AAAA", "CCCC", "NO 08|");
        b.say("UNL", "AAAA", "BBBB", "OK|");
        b.say("UNL", "AAAA", "BBBB", "NO 08|");
    }

    /** "PLG, UNP: of the bank, the asset is no security, amount 0, or (UNP) more than is pledged." */
    private static void plgAndUnpCanNotBe() {
        Bench b = Bench.open("PLG and UNP");
        b.issue("EUR", "AAAA", 10);
        b.issue("USD", "AAAA", 10);
        b.issue("BND", "AAAA", 10);
        b.quietly("PLG", "AAAA", of("BND", 4));
        for (String kind : new String[] {"PLG", "UNP"}) {
            b.say(kind, "CBNK", of("BND", 1), "NO 08|");
            b.say(kind, "AAAA", of("EUR", 1), "NO 08|");
            b.say(kind, "AAAA", of("USD", 1), "NO 08|");
            b.say(kind, "AAAA", of("BND", 0), "NO 08|");
        }
        b.say("UNP", "AAAA", of("BND", 5), "NO 08|");
        b.say("UNP", "BBBB", of("BND", 1), "NO 08|");
        b.say("UNP", "AAAA", of("BND", 4), "OK|");
        b.say("UNP", "AAAA", of("BND", 1), "NO 08|");
    }

    /** "PRC: a currency." */
    private static void prcCanNotBe() {
        Bench b = Bench.open("PRC");
        b.say("PRC", "CBNK", of("EUR", 1) + "01", "NO 08|");
        b.say("PRC", "CBNK", of("USD", 0) + "00", "NO 08|");
        b.say("PRC", "CBNK", of("BND", 0) + "00", "OK|");
    }

    /** "CNF: no leg goes from the sender, or it is confirmed by them (also when it waits already)" */
    private static void cnfCanNotBe() {
        Bench b = Bench.open("CNF");
        b.sayAs("PAY", "AAAA", "PAY00001", "13" + Bench.leg("AAAA", "DDDD", "EUR", 1) + Bench.leg("BBBB", "DDDD", "EUR", 1)
            + Bench.leg("CCCC", "DDDD", "EUR", 1), "OK CONF|");
        b.say("CNF", "DDDD", "AAAAPAY00001", "NO 08|");
        b.say("CNF", "CBNK", "AAAAPAY00001", "NO 08|");
        b.say("CNF", "AAAA", "AAAAPAY00001", "NO 08|");
        b.say("CNF", "BBBB", "AAAAPAY00001", "OK CONF|");
        b.say("CNF", "BBBB", "AAAAPAY00001", "NO 08|");
        b.say("CNF", "CCCC", "AAAAPAY00001", "OK WAIT|");
        for (String code : new String[] {"AAAA", "BBBB", "CCCC", "DDDD"}) {
            b.say("CNF", code, "AAAAPAY00001", "NO 08|");
        }
        // A sender from whom no leg goes has confirmed it, too.
        b.sayAs("PAY", "DDDD", "PAY00002", pay("AAAA", "BBBB", "EUR", 1), "OK CONF|");
        b.say("CNF", "DDDD", "DDDDPAY00002", "NO 08|");
        b.say("CNF", "AAAA", "DDDDPAY00002", "OK WAIT|");
    }

    /** "09: RED" */
    private static void redBelowTheFloor() {
        Bench b = Bench.open("RED");
        b.issue("EUR", "AAAA", 5);
        b.issue("BND", "AAAA", 5);
        b.quietly("PLG", "AAAA", of("BND", 2));
        b.say("RED", "CBNK", "BNDAAAA" + Bench.amount(4), "NO 09|");
        b.say("RED", "CBNK", "BNDAAAA" + Bench.amount(3), "OK|");
        b.say("RED", "CBNK", "EURAAAA" + Bench.amount(186), "NO 09|");
        b.say("RED", "CBNK", "EURAAAA" + Bench.amount(LARGEST), "NO 09|");
        b.say("RED", "CBNK", "EURAAAA" + Bench.amount(185), "OK|");
        b.holds(1, 0, -180);
        // One that waits for the same position does not stand in its way.
        b.issue("USD", "AAAA", 5);
        b.say("PAY", "AAAA", pay("AAAA", "BBBB", "USD", 6), "OK WAIT|");
        b.say("RED", "CBNK", "USDAAAA" + Bench.amount(5), "OK|");
    }

    /** "09: .. PLG" */
    private static void plgBelowTheFloor() {
        Bench b = Bench.open("PLG");
        b.issue("BND", "AAAA", 5);
        b.say("PLG", "AAAA", of("BND", LARGEST), "NO 09|");
        b.say("PLG", "AAAA", of("BND", 6), "NO 09|");
        b.say("PLG", "AAAA", of("BND", 5), "OK|");
        b.say("PLG", "AAAA", of("BND", LARGEST), "NO 09|");
        b.say("PLG", "BBBB", of("BND", 1), "NO 09|");
    }

    /** "09: .. UNP" */
    private static void unpBelowTheFloor() {
        Bench b = Bench.open("UNP");
        b.issue("BND", "AAAA", 10);
        b.quietly("PLG", "AAAA", of("BND", 10));
        b.quietly("RED", "CBNK", "EURAAAA" + Bench.amount(90));
        b.say("UNP", "AAAA", of("BND", 10), "NO 09|");
        b.say("UNP", "AAAA", of("BND", 9), "OK|");
        b.say("UNP", "AAAA", of("BND", 1), "NO 09|");
        b.issue("EUR", "AAAA", 89);
        b.say("UNP", "AAAA", of("BND", 1), "NO 09|");
        b.issue("EUR", "AAAA", 1);
        b.say("UNP", "AAAA", of("BND", 1), "OK|");
    }

    /** "09: .. PRC (of any participant's first currency)" */
    private static void prcBelowTheFloor() {
        for (String code : new String[] {"AAAA", "BBBB", "CCCC", "DDDD"}) {
            Bench b = Bench.open("PRC and " + code);
            for (String all : new String[] {"AAAA", "BBBB", "CCCC", "DDDD"}) {
                b.issue("BND", all, 10);
                b.quietly("PLG", all, of("BND", 10));
            }
            b.quietly("RED", "CBNK", "EUR" + code + Bench.amount(500));
            b.say("PRC", "CBNK", of("BND", 49) + "00", "NO 09|");
            b.say("PRC", "CBNK", of("BND", 51) + "02", "NO 09|");
            b.say("PRC", "CBNK", of("BND", 0) + "00", "NO 09|");
            b.say("PRC", "CBNK", of("BND", 50) + "00", "OK|");
            b.say("PRC", "CBNK", of("BND", 50) + "01", "NO 09|");
            b.issue("EUR", code, 500);
            b.say("PRC", "CBNK", of("BND", 0) + "99", "OK|");
        }
        // The price of what is not pledged may fall.
        Bench b = Bench.open("PRC of another");
        b.quietly("AST", "CBNK", "SHRS" + Bench.amount(9) + "00");
        b.issue("BND", "AAAA", 1);
        b.issue("SHR", "AAAA", 1);
        b.quietly("PLG", "AAAA", of("BND", 1));
        b.quietly("RED", "CBNK", "EURAAAA" + Bench.amount(90));
        b.say("PRC", "CBNK", of("SHR", 0) + "00", "OK|");
        b.say("PRC", "CBNK", of("BND", 100) + "11", "NO 09|");
        b.say("PRC", "CBNK", of("BND", 100) + "10", "OK|");
    }

    /** "09: .. LIM (what was paid already is more)" */
    private static void limBelowTheFloor() {
        Bench b = rich("LIM");
        b.quietly("PAY", "AAAA", pay("AAAA", "BBBB", "EUR", 9));
        b.quietly("PAY", "BBBB", pay("BBBB", "AAAA", "EUR", 2));
        b.say("LIM", "AAAA", of("BBBB", 6), "NO 09|");
        b.say("LIM", "AAAA", of("BBBB", 0), "NO 09|");
        b.say("LIM", "AAAA", of("BBBB", 7), "OK|");
        b.say("LIM", "AAAA", of("BBBB", 6), "NO 09|");
        b.say("LIM", "BBBB", of("AAAA", 0), "OK|");
        // The one that stood before a refused one stands still.
        b.say("LIM", "AAAA", of("BBBB", 8), "OK|");
        b.say("LIM", "AAAA", of("BBBB", 6), "NO 09|");
        b.say("PAY", "AAAA", pay("AAAA", "BBBB", "EUR", 2), "OK WAIT|");
        b.quietly("CAN", "AAAA", "T0000021");
        b.say("PAY", "AAAA", pay("AAAA", "BBBB", "EUR", 1), "OK DONE|SAAAAT0000023|");
    }

    /** "10: .. PLG .. the sum of all credits would be more than 4 * 10 ^ 18" */
    private static void plgTooLarge() {
        Bench b = Bench.open("PLG too large");
        b.quietly("AST", "CBNK", "ONES" + Bench.amount(1) + "00");
        b.quietly("PRC", "CBNK", of("BND", 1000000000000L) + "00");
        for (String code : new String[] {"AAAA", "BBBB", "CCCC"}) {
            b.issue("BND", code, LARGEST);
            b.issue("ONE", code, LARGEST);
        }
        b.say("PLG", "AAAA", of("BND", 4000001), "NO 10|");
        b.say("PLG", "AAAA", of("BND", LARGEST), "NO 10|");
        b.say("PLG", "AAAA", of("BND", 3000000), "OK|");
        b.say("PLG", "BBBB", of("BND", 1000001), "NO 10|");
        b.say("PLG", "BBBB", of("BND", 999999), "OK|");
        b.say("PLG", "CCCC", of("ONE", 1000000000001L), "NO 10|");
        b.say("PLG", "CCCC", of("ONE", 999999999999L), "OK|");
        b.say("PLG", "AAAA", of("ONE", 2), "NO 10|");
        b.say("PLG", "AAAA", of("ONE", 1), "OK|");
        // Exactly 4 * 10 ^ 18 now.
        b.say("PLG", "CCCC", of("ONE", 1), "NO 10|");
        b.say("UNP", "BBBB", of("BND", 1), "OK|");
        b.say("PLG", "CCCC", of("ONE", LARGEST - 999999999999L), "NO 10|");
        b.say("PLG", "CCCC", of("ONE", 1000000000000L), "OK|");
        b.say("PLG", "CCCC", of("ONE", 1), "NO 10|");
        // Too large only by what the hundredths of a factor sum up to: 57157 * 7 are 400099.
        Bench part = Bench.open("PLG too large by a part");
        part.quietly("PRC", "CBNK", of("BND", 57157) + "93");
        part.issue("BND", "AAAA", LARGEST);
        part.say("PLG", "AAAA", of("BND", LARGEST), "NO 10|");
        part.say("PLG", "AAAA", of("BND", 999752561241093L), "NO 10|");
        part.say("PLG", "AAAA", of("BND", 999752561241092L), "OK|");
        // What gives no credit is not too large.
        b.quietly("AST", "CBNK", "NILS" + Bench.amount(0) + "00");
        b.issue("NIL", "CCCC", LARGEST);
        b.say("PLG", "CCCC", of("NIL", LARGEST), "OK|");
    }

    /** "10: .. PRC: the sum of all credits would be more than 4 * 10 ^ 18" */
    private static void prcTooLarge() {
        Bench b = Bench.open("PRC too large");
        b.quietly("PRC", "CBNK", of("BND", 1) + "00");
        for (String code : new String[] {"AAAA", "BBBB", "CCCC", "DDDD"}) {
            b.issue("BND", code, 1000000000000L);
            b.quietly("PLG", code, of("BND", 1000000000000L));
        }
        b.say("PRC", "CBNK", of("BND", LARGEST) + "00", "NO 10|");
        b.say("PRC", "CBNK", of("BND", 1000001) + "00", "NO 10|");
        b.say("PRC", "CBNK", of("BND", 1000000) + "00", "OK|");
        b.say("PRC", "CBNK", of("BND", 100000000) + "98", "NO 10|");
        b.say("PRC", "CBNK", of("BND", 100000000) + "99", "OK|");
        b.say("PRC", "CBNK", of("BND", 100000001) + "99", "NO 10|");
        Bench alone = Bench.open("PRC too large for one alone");
        alone.issue("BND", "AAAA", 1000000000000L);
        alone.quietly("PLG", "AAAA", of("BND", 1000000000000L));
        alone.say("PRC", "CBNK", of("BND", 4000001) + "00", "NO 10|");
        alone.say("PRC", "CBNK", of("BND", 4000000) + "00", "OK|");
        // The sum of the four comes round to a small one in 64 bits: 4 * 10 ^ 12 * 4611687 is above 2 ^ 64 by 3 * 10 ^ 12.
        b.say("PRC", "CBNK", of("BND", 4611687) + "00", "NO 10|");
        b.say("PRC", "CBNK", of("BND", 0) + "00", "OK|");
    }

    /** "12: .. a 65th asset" */
    private static void theSixtyFifthAsset() {
        Bench b = new Bench("a 65th asset");
        for (int i = 0; i < 64; i++) {
            b.counts(4, i);
            b.say("AST", "CBNK", "X" + (10 + i) + (i % 2 == 0 ? "S" : "C") + Bench.amount(0) + "00", "OK|");
        }
        b.say("AST", "CBNK", "X74S" + Bench.amount(0) + "00", "NO 12|");
        b.say("AST", "CBNK", "X74C" + Bench.amount(0) + "00", "NO 12|");
        b.counts(4, 64);
        b.quietly("NEW", "CBNK", "AAAA");
        b.tick(100);
        b.say("ISS", "CBNK", "X73AAAA" + Bench.amount(3), "OK|");
        b.say("ISS", "CBNK", "X74AAAA" + Bench.amount(3), "NO 05|");
        b.holds(1, 63, 3);
        b.holds(0, 63, -3);
        b.holds(1, 64, 0);
    }

    /** "a 2001st limit (one in another's place is no more)": what a snapshot counts is the same for one set twice */
    private static void aLimitInAnothersPlace() {
        Bench b = new Bench("in another's place");
        // 20 + 4 * 13 + 14 * 2 bytes are 100, so 33 limits are 496, and the 34th needs a second block.
        b.quietly("AST", "CBNK", "EURC" + Bench.amount(0) + "00");
        b.quietly("AST", "CBNK", "USDC" + Bench.amount(0) + "00");
        for (int i = 10; i < 22; i++) {
            b.quietly("NEW", "CBNK", "PP" + i);
        }
        int limits = 0;
        for (int i = 10; i < 22 && limits < 33; i++) {
            for (int j = 10; j < 22 && limits < 33; j++) {
                if (i != j) {
                    b.quietly("LIM", "PP" + i, of("PP" + j, limits % 3));
                    limits++;
                }
            }
        }
        b.quietly("LIM", "PP10", of("PP11", 5));
        b.quietly("LIM", "PP10", of("PP11", 0));
        b.is("33 limits", blocksOfADay(b), 3);
        b.quietly("LIM", "PP21", of("PP10", 0));
        b.is("34 limits", blocksOfADay(b), 4);
        b.quietly("UNL", "PP10", "PP11");
        b.is("33 limits again", blocksOfADay(b), 3);
        b.quietly("LIM", "PP10", of("PP11", 1));
        b.is("34 limits again", blocksOfADay(b), 4);
    }

    /** The block of the record and those of the snapshot, on the second of two days, so that the record is alone. */
    private static int blocksOfADay(Bench b) {
        b.tick(1000);
        int before = b.count(9);
        b.tick(1000);
        return b.count(9) - before;
    }
}
