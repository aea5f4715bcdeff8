/** Of send: floors, pledges, credit against them, prices, and amounts that would be too large. */
public final class CreditTest {
    private static final long LARGEST = 999999999999999L;

    public static void main(String[] args) {
        creditIsAFloor();
        inTheFirstCurrencyAlone();
        roundedDownForEachSecurity();
        roundedDownInLargeAmounts();
        aPledgeIsOfWhatIsThere();
        noMorePledged();
        aPriceFalls();
        aPriceRises();
        pledgedBeforeThereIsACurrency();
        theFirstCurrencyIsTheFirstMade();
        tooMuchCredit();
        tooMuchCreditByOne();
        tooMuchCreditByAPrice();
        exactlyAllCreditByAPrice();
        Bench.finish();
    }

    private static String pledge(String asset, long n) {
        return asset + Bench.amount(n);
    }

    private static void creditIsAFloor() {
        Bench b = Bench.open("credit");
        b.issue("BND", "AAAA", 10);
        b.sayAs("PAY", "AAAA", "PAY00001", "11" + Bench.leg("AAAA", "BBBB", "EUR", 900), "OK WAIT|");
        b.say("PLG", "AAAA", pledge("BND", 9), "OK|");
        b.say("PLG", "AAAA", pledge("BND", 1), "OK|SAAAAPAY00001|");
        b.holds(1, 0, -900);
        b.say("PAY", "AAAA", "11" + Bench.leg("AAAA", "BBBB", "EUR", 1), "OK WAIT|");
        b.holds(2, 0, 900);
    }

    private static void inTheFirstCurrencyAlone() {
        Bench b = Bench.open("first currency");
        b.issue("BND", "AAAA", 10);
        b.say("PLG", "AAAA", pledge("BND", 10), "OK|");
        b.say("PAY", "AAAA", "11" + Bench.leg("AAAA", "BBBB", "USD", 1), "OK WAIT|");
        b.say("PAY", "AAAA", "11" + Bench.leg("AAAA", "BBBB", "EUR", 1), "OK DONE|SAAAAT0000011|");
        b.say("RED", "CBNK", "EURAAAA" + Bench.amount(900), "NO 09|");
        b.say("RED", "CBNK", "EURAAAA" + Bench.amount(899), "OK|");
        b.say("RED", "CBNK", "USDAAAA" + Bench.amount(1), "NO 09|");
        b.say("STM", "CBNK", "", "OK|EUR 0 0 899 899 1|BND 0 10 0 -10 1|");
        // The bank has no floor, so what it holds can be given whatever it is.
        b.say("ISS", "CBNK", "EURBBBB" + Bench.amount(1000), "OK|");
        b.holds(0, 0, -101);
    }

    private static void roundedDownForEachSecurity() {
        Bench b = Bench.open("rounded");
        b.quietly("AST", "CBNK", "SHRS" + Bench.amount(1) + "01");
        b.quietly("PRC", "CBNK", "BND" + Bench.amount(1) + "01");
        b.issue("BND", "AAAA", 10);
        b.issue("SHR", "AAAA", 10);
        b.quietly("PLG", "AAAA", pledge("BND", 5));
        b.quietly("PLG", "AAAA", pledge("SHR", 5));
        // 5 * 99 / 100 is 4, twice: 8, and not the 9 of the sum.
        b.say("RED", "CBNK", "EURAAAA" + Bench.amount(9), "NO 09|");
        b.say("RED", "CBNK", "EURAAAA" + Bench.amount(8), "OK|");
        b.say("PRC", "CBNK", "BND" + Bench.amount(1) + "00", "OK|");
        b.say("RED", "CBNK", "EURAAAA" + Bench.amount(1), "OK|");
        b.say("PRC", "CBNK", "BND" + Bench.amount(1) + "19", "NO 09|");
        b.holds(1, 0, -9);
    }

    private static void roundedDownInLargeAmounts() {
        Bench b = Bench.open("rounded, large");
        b.quietly("PRC", "CBNK", "BND" + Bench.amount(1) + "01");
        b.issue("BND", "AAAA", 99999);
        b.quietly("PLG", "AAAA", pledge("BND", 12345));
        // 12345 * 99 / 100 is 12221 and a half.
        b.say("RED", "CBNK", "EURAAAA" + Bench.amount(12222), "NO 09|");
        b.say("RED", "CBNK", "EURAAAA" + Bench.amount(12221), "OK|");
        b.quietly("PRC", "CBNK", "BND" + Bench.amount(17) + "83");
        // 12345 * 289 / 100 is 35677 and a bit.
        b.say("RED", "CBNK", "EURAAAA" + Bench.amount(35678 - 12221), "NO 09|");
        b.say("RED", "CBNK", "EURAAAA" + Bench.amount(35677 - 12221), "OK|");
    }

    private static void aPledgeIsOfWhatIsThere() {
        Bench b = Bench.open("what is there");
        b.issue("BND", "AAAA", 10);
        b.say("PLG", "AAAA", pledge("BND", 11), "NO 09|");
        b.say("PLG", "BBBB", pledge("BND", 1), "NO 09|");
        b.say("PLG", "AAAA", pledge("BND", 6), "OK|");
        b.say("PLG", "AAAA", pledge("BND", 5), "NO 09|");
        b.say("RED", "CBNK", "BNDAAAA" + Bench.amount(5), "NO 09|");
        b.sayAs("PAY", "AAAA", "PAY00001", "11" + Bench.leg("AAAA", "BBBB", "BND", 5), "OK WAIT|");
        b.sayAs("PAY", "AAAA", "PAY00002", "21" + Bench.leg("AAAA", "BBBB", "BND", 3), "OK WAIT|");
        b.say("UNP", "AAAA", pledge("BND", 1), "OK|SAAAAPAY00001|");
        b.holds(1, 2, 5);
        b.say("UNP", "AAAA", pledge("BND", 3), "OK|SAAAAPAY00002|");
        b.holds(1, 2, 2);
        b.say("PLG", "AAAA", pledge("BND", 1), "NO 09|");
    }

    private static void noMorePledged() {
        Bench b = Bench.open("no more pledged");
        b.issue("BND", "AAAA", 10);
        b.quietly("PLG", "AAAA", pledge("BND", 10));
        b.quietly("PAY", "AAAA", "11" + Bench.leg("AAAA", "BBBB", "EUR", 450));
        b.say("UNP", "AAAA", pledge("BND", 11), "NO 08|");
        b.say("UNP", "AAAA", pledge("BND", 6), "NO 09|");
        b.say("UNP", "AAAA", pledge("BND", 5), "OK|");
        b.say("UNP", "AAAA", pledge("BND", 6), "NO 08|");
        b.say("UNP", "AAAA", pledge("BND", 1), "NO 09|");
        b.quietly("PAY", "BBBB", "11" + Bench.leg("BBBB", "AAAA", "EUR", 450));
        b.say("UNP", "AAAA", pledge("BND", 5), "OK|");
        b.say("RED", "CBNK", "BNDAAAA" + Bench.amount(10), "OK|");
    }

    private static void aPriceFalls() {
        Bench b = Bench.open("a price falls");
        b.issue("BND", "AAAA", 10);
        b.issue("BND", "BBBB", 10);
        b.quietly("PLG", "AAAA", pledge("BND", 10));
        b.quietly("PLG", "BBBB", pledge("BND", 10));
        b.quietly("PAY", "BBBB", "11" + Bench.leg("BBBB", "CCCC", "EUR", 500));
        b.say("PRC", "CBNK", "BND" + Bench.amount(49) + "00", "NO 09|");
        b.say("PRC", "CBNK", "BND" + Bench.amount(100) + "51", "NO 09|");
        b.say("PRC", "CBNK", "BND" + Bench.amount(50) + "00", "OK|");
        b.say("PRC", "CBNK", "BND" + Bench.amount(100) + "50", "OK|");
        b.say("PAY", "BBBB", "11" + Bench.leg("BBBB", "CCCC", "EUR", 1), "OK WAIT|");
        b.say("PAY", "AAAA", "11" + Bench.leg("AAAA", "CCCC", "EUR", 500), "OK DONE|SAAAAT0000018|");
        b.quietly("RED", "CBNK", "EURCCCC" + Bench.amount(1));
        b.say("PRC", "CBNK", "BND" + Bench.amount(0) + "00", "NO 09|");
    }

    private static void aPriceRises() {
        Bench b = Bench.open("a price rises");
        b.issue("BND", "AAAA", 10);
        b.quietly("PLG", "AAAA", pledge("BND", 10));
        b.sayAs("PAY", "AAAA", "PAY00001", "11" + Bench.leg("AAAA", "BBBB", "EUR", 1000), "OK WAIT|");
        b.say("PRC", "CBNK", "BND" + Bench.amount(111) + "10", "OK|");
        b.say("PRC", "CBNK", "BND" + Bench.amount(111) + "09", "OK|SAAAAPAY00001|");
    }

    private static void pledgedBeforeThereIsACurrency() {
        Bench b = new Bench("before a currency");
        b.quietly("AST", "CBNK", "BNDS" + Bench.amount(100) + "10");
        b.quietly("NEW", "CBNK", "AAAA");
        b.quietly("NEW", "CBNK", "BBBB");
        b.say("LIM", "AAAA", "BBBB" + Bench.amount(300), "OK|");
        b.tick(100);
        b.issue("BND", "AAAA", 10);
        b.say("PLG", "AAAA", pledge("BND", 10), "OK|");
        b.say("UNP", "AAAA", pledge("BND", 5), "OK|");
        b.say("PRC", "CBNK", "BND" + Bench.amount(1) + "10", "OK|");
        b.say("PRC", "CBNK", "BND" + Bench.amount(100) + "10", "OK|");
        b.say("AST", "CBNK", "EURC" + Bench.amount(0) + "00", "OK|");
        b.say("RED", "CBNK", "EURAAAA" + Bench.amount(451), "NO 09|");
        b.say("PAY", "AAAA", "11" + Bench.leg("AAAA", "BBBB", "EUR", 301), "OK WAIT|");
        b.say("PAY", "AAAA", "11" + Bench.leg("AAAA", "BBBB", "BND", 5), "OK DONE|SAAAAT0000013|");
        b.say("CAN", "AAAA", "T0000012", "OK|");
        b.say("PAY", "AAAA", "11" + Bench.leg("AAAA", "BBBB", "EUR", 300), "OK DONE|SAAAAT0000015|");
        b.say("RED", "CBNK", "EURAAAA" + Bench.amount(150), "OK|");
        b.say("RED", "CBNK", "EURAAAA" + Bench.amount(1), "NO 09|");
    }

    private static void theFirstCurrencyIsTheFirstMade() {
        Bench b = new Bench("the first currency");
        b.quietly("AST", "CBNK", "ZZZC" + Bench.amount(0) + "00");
        b.quietly("AST", "CBNK", "AAAC" + Bench.amount(0) + "00");
        b.quietly("NEW", "CBNK", "PPPP");
        b.quietly("NEW", "CBNK", "QQQQ");
        b.quietly("LIM", "PPPP", "QQQQ" + Bench.amount(0));
        b.tick(100);
        b.issue("ZZZ", "PPPP", 5);
        b.issue("AAA", "PPPP", 5);
        b.say("PAY", "PPPP", "11" + Bench.leg("PPPP", "QQQQ", "AAA", 5), "OK DONE|SPPPPT0000008|");
        b.say("PAY", "PPPP", "11" + Bench.leg("PPPP", "QQQQ", "ZZZ", 5), "OK WAIT|");
        b.tick(700);
        b.say("PAY", "QQQQ", "11" + Bench.leg("QQQQ", "PPPP", "AAA", 1), "NO 07|");
        b.say("PAY", "QQQQ", "11" + Bench.leg("QQQQ", "PPPP", "ZZZ", 1), "OK WAIT|");
    }

    private static void tooMuchCredit() {
        Bench b = Bench.open("too much credit");
        b.quietly("PRC", "CBNK", "BND" + Bench.amount(4000000000000L) + "00");
        b.issue("BND", "AAAA", 1000001);
        b.issue("BND", "BBBB", 1000001);
        b.say("PLG", "AAAA", pledge("BND", 1000001), "NO 10|");
        b.say("PLG", "AAAA", pledge("BND", 1000000), "OK|");
        b.say("PLG", "AAAA", pledge("BND", 2), "NO 09|");
        b.say("PLG", "AAAA", pledge("BND", 1), "NO 10|");
        b.say("PLG", "BBBB", pledge("BND", 1), "NO 10|");
        b.say("UNP", "AAAA", pledge("BND", 1), "OK|");
        b.say("PLG", "BBBB", pledge("BND", 2), "NO 10|");
        b.say("PLG", "BBBB", pledge("BND", 1), "OK|");
        for (int i = 0; i < 3; i++) {
            b.say("RED", "CBNK", "EURAAAA" + Bench.amount(LARGEST), "OK|");
        }
        b.say("UNP", "AAAA", pledge("BND", 999999), "NO 09|");
        // Products far above what a long holds, also above it by just so much that it would come round.
        b.quietly("PRC", "CBNK", "BND" + Bench.amount(4000000000000L) + "01");
        b.issue("BND", "CCCC", LARGEST);
        b.say("PLG", "CCCC", pledge("BND", LARGEST), "NO 10|");
        b.say("PLG", "CCCC", pledge("BND", 4611687L), "NO 10|");
        b.say("PLG", "CCCC", pledge("BND", 10000L), "OK|");
    }

    private static void tooMuchCreditByOne() {
        Bench b = Bench.open("one too much");
        b.quietly("AST", "CBNK", "SHRS" + Bench.amount(1) + "00");
        b.quietly("PRC", "CBNK", "BND" + Bench.amount(4000000000000L) + "00");
        b.issue("BND", "AAAA", 1000000);
        b.issue("SHR", "BBBB", 1);
        b.say("PLG", "AAAA", pledge("BND", 1000000), "OK|");
        b.say("PLG", "BBBB", pledge("SHR", 1), "NO 10|");
        // Too much only by the part of a hundred that price and haircut leave: 57157 * 7 is 400099.
        Bench part = Bench.open("a part too much");
        part.quietly("PRC", "CBNK", "BND" + Bench.amount(57157) + "93");
        part.issue("BND", "AAAA", LARGEST);
        part.say("PLG", "AAAA", pledge("BND", LARGEST), "NO 10|");
        part.say("PLG", "AAAA", pledge("BND", 999752561241092L), "OK|");
        part.say("PLG", "AAAA", pledge("BND", 1), "NO 10|");
    }

    private static void exactlyAllCreditByAPrice() {
        Bench b = Bench.open("exactly all");
        b.issue("BND", "AAAA", 1000000000000L);
        b.issue("BND", "BBBB", 1000000000000L);
        b.quietly("PLG", "AAAA", pledge("BND", 1000000000000L));
        b.say("PRC", "CBNK", "BND" + Bench.amount(4000001L) + "00", "NO 10|");
        b.say("PRC", "CBNK", "BND" + Bench.amount(4000000L) + "00", "OK|");
        b.say("PRC", "CBNK", "BND" + Bench.amount(1) + "00", "OK|");
        b.quietly("PLG", "BBBB", pledge("BND", 1000000000000L));
        b.say("PRC", "CBNK", "BND" + Bench.amount(2000001L) + "00", "NO 10|");
        b.say("PRC", "CBNK", "BND" + Bench.amount(2000000L) + "00", "OK|");
    }

    private static void tooMuchCreditByAPrice() {
        Bench b = Bench.open("too much by a price");
        for (String code : new String[] {"AAAA", "BBBB", "CCCC"}) {
            b.issue("BND", code, LARGEST);
            b.say("PLG", code, pledge("BND", 1000000000000L), "OK|");
        }
        b.say("PRC", "CBNK", "BND" + Bench.amount(1333334L) + "00", "NO 10|");
        b.say("PRC", "CBNK", "BND" + Bench.amount(LARGEST) + "00", "NO 10|");
        b.say("PRC", "CBNK", "BND" + Bench.amount(LARGEST) + "99", "NO 10|");
        b.say("PRC", "CBNK", "BND" + Bench.amount(18446744L) + "00", "NO 10|");
        b.say("PRC", "CBNK", "BND" + Bench.amount(1333333L) + "00", "OK|");
        b.say("PLG", "CCCC", pledge("BND", 750000L), "OK|");
        b.say("PLG", "CCCC", pledge("BND", 1L), "NO 10|");
        b.say("PRC", "CBNK", "BND" + Bench.amount(1333333L) + "01", "OK|");
        b.say("PLG", "CCCC", pledge("BND", 1L), "OK|");
    }
}
