/** The edges of the document's THE DAY: a method for each sentence, which stands above it. */
public final class DayEdgesTest {
    private static final String NIL = Bench.amount(0);
    private static final String ONE = Bench.amount(1);
    private static final int[] EDGES = {0, 1, 99, 100, 101, 699, 700, 701, 799, 800, 801, 899, 900, 901, 999};

    public static void main(String[] args) {
        thousandTicks();
        oneAfterTheOther();
        early();
        open();
        late();
        finalPhase();
        shut();
        payAloneIsAsked();
        alwaysIn();
        noFirstCurrencyInFinal();
        resolvedAtEachOfTheseTicks();
        resolvedInOneCall();
        sentBackInTheOrder();
        resolvedThenSentBack();
        nothingSettlesBehindThat();
        aDayBegins();
        theStatementsAssets();
        theStatementsNumbers();
        netsOfWholeInstructions();
        netOfNothingIsNoMove();
        assetsByWhenTheyCame();
        statementsOfManyDigits();
        statementsOfAllAssets();
        statementsInEveryPhase();
        aTicksLines();
        Bench.finish();
    }

    private static String eur(int priority, String from, String to, long n) {
        return priority + "1" + Bench.leg(from, to, "EUR", n);
    }

    /** "A day has 1000 TICKS, the first one is 0." */
    private static void thousandTicks() {
        Bench b = new Bench("1000 ticks");
        b.counts(1, 0);
        b.counts(2, 0);
        b.tick(1);
        b.counts(2, 1);
        b.tick(998);
        b.counts(1, 0);
        b.counts(2, 999);
        b.tick(1);
        b.counts(1, 1);
        b.counts(2, 0);
        b.tick(999);
        b.counts(1, 1);
        b.counts(2, 999);
        b.tick(2);
        b.counts(1, 2);
        b.counts(2, 1);
        b.tick(1000);
        b.counts(1, 3);
        b.counts(2, 1);
        b.tick(999);
        b.counts(1, 4);
        b.counts(2, 0);
        Bench many = new Bench("many days");
        for (int i = 0; i < 510; i++) {
            many.tick(1000);
        }
        many.counts(1, 510);
        many.counts(2, 0);
    }

    /** "tick(n) lets n pass, one after the other." */
    private static void oneAfterTheOther() {
        Bench one = Bench.at("one after the other", 899);
        one.sayAs("PAY", "AAAA", "RING0000", eur(1, "AAAA", "BBBB", 5), "OK WAIT|");
        one.sayAs("PAY", "BBBB", "RING0000", eur(1, "BBBB", "AAAA", 5), "OK WAIT|");
        one.sayAs("PAY", "CCCC", "ALONE000", eur(1, "CCCC", "AAAA", 5), "OK WAIT|");
        // From 899 over 900 and 0 to 150 of the next day in one call: all that is due on the way is done.
        one.pass(251, "SAAAARING0000|SBBBBRING0000|BCCCCALONE000|");
        one.counts(1, 1);
        one.counts(2, 150);
        one.say("STM", "AAAA", "", "OK|");
    }

    /** The kinds of which the phase is asked, each with what is due where it is one for it. */
    private static final String[] ASKED = {"CNFAAAA BBBBNOTHING0 NO 11", "ISSCBNK EURAAAA" + ONE + " OK", "REDCBNK USDAAAA" + ONE + " NO 09",
        "RESCBNK  OK", "CANAAAA NOTHING0 NO 11", "PRIAAAA NOTHING01 NO 11"};

    private static void ask(Bench b, String row, boolean inPhase) {
        String kind = row.substring(0, 3);
        int end = row.indexOf(' ', 8);
        b.say(kind, row.substring(3, 7), row.substring(8, end), inPhase ? row.substring(end + 1) + "|" : "NO 07|");
    }

    private static String payAnswer(boolean inPhase) {
        return inPhase ? "OK WAIT|" : "NO 07|";
    }

    private static void pays(Bench b, int at) {
        boolean early = at < 100;
        boolean late = at >= 700 && at < 800;
        boolean inFinal = at >= 800 && at < 900;
        boolean shut = at >= 900;
        for (int priority : new int[] {1, 4, 5, 9}) {
            for (String asset : new String[] {"EUR", "USD", "BND"}) {
                boolean in = !early && !shut && !(late && priority > 4) && !(inFinal && !asset.equals("EUR"));
                b.say("PAY", "AAAA", priority + "1" + Bench.leg("AAAA", "BBBB", asset, 9), payAnswer(in));
            }
        }
    }

    private static void phase(int from, int to, boolean[] asked) {
        for (int at : EDGES) {
            if (at < from || at > to) {
                continue;
            }
            Bench b = Bench.at("at " + at, at);
            for (int i = 0; i < ASKED.length; i++) {
                ask(b, ASKED[i], asked[i]);
            }
            pays(b, at);
        }
    }

    /** "ticks 0 .. 99: EARLY: PAY, CNF and ISS, RED, RES are 07" */
    private static void early() {
        phase(0, 99, new boolean[] {false, false, false, false, true, true});
    }

    /** "100 .. 699 OPEN" */
    private static void open() {
        phase(100, 699, new boolean[] {true, true, true, true, true, true});
    }

    /** "700 .. 799 LATE: PAY of a priority above 4 is 07" */
    private static void late() {
        phase(700, 799, new boolean[] {true, true, true, true, true, true});
    }

    /** "800 .. 899 FINAL: PAY with a leg not in the first currency is 07" */
    private static void finalPhase() {
        phase(800, 899, new boolean[] {true, true, true, true, true, true});
        for (int place = 0; place < 4; place++) {
            Bench b = Bench.at("leg " + place, 850);
            String right = Bench.leg("AAAA", "BBBB", "EUR", 1);
            String wrong = Bench.leg("AAAA", "BBBB", "USD", 1);
            b.say("PAY", "AAAA", "14" + right.repeat(place) + wrong + right.repeat(3 - place), "NO 07|");
            b.say("PAY", "AAAA", "94" + right.repeat(4), "OK WAIT|");
        }
    }

    /** "900 .. 999 SHUT: PAY, CNF, CAN, PRI, ISS, RED, RES are 07" */
    private static void shut() {
        phase(900, 999, new boolean[] {false, false, false, false, false, false});
    }

    /** "(Of priorities and legs PAY alone is asked, when it comes: CNF and PRI are taken whatever theirs are.)" */
    private static void payAloneIsAsked() {
        for (int at : new int[] {700, 799, 800, 899}) {
            Bench b = Bench.at("asked", 600);
            b.sayAs("PAY", "AAAA", "ASKED000", "91" + Bench.leg("BBBB", "CCCC", "USD", 1), "OK CONF|");
            b.sayAs("PAY", "AAAA", "WAITS000", "11" + Bench.leg("AAAA", "CCCC", "BND", 1), "OK WAIT|");
            b.tick(at - 600);
            b.say("PRI", "AAAA", "WAITS0009", "OK|");
            b.say("PRI", "AAAA", "ASKED0008", "OK|");
            b.say("CNF", "BBBB", "AAAAASKED000", "OK WAIT|");
            b.say("ISS", "CBNK", "USDBBBB" + ONE, "OK|SAAAAASKED000|");
            b.say("CAN", "AAAA", "WAITS000", "OK|");
        }
    }

    /** All other kinds are taken in every phase. */
    private static void alwaysIn() {
        for (int at : EDGES) {
            Bench b = Bench.open("always " + at);
            b.issue("BND", "AAAA", 9);
            b.tick(900);
            if (at > 0) {
                b.tick(at);
            }
            b.counts(2, at);
            b.say("NEW", "CBNK", "EEEE", "OK|");
            b.say("AST", "CBNK", "GBPC" + NIL + "00", "OK|");
            b.say("PRC", "CBNK", "BND" + ONE + "00", "OK|");
            b.say("LIM", "AAAA", "BBBB" + ONE, "OK|");
            b.say("UNL", "AAAA", "BBBB", "OK|");
            b.say("PLG", "AAAA", "BND" + ONE, "OK|");
            b.say("UNP", "AAAA", "BND" + ONE, "OK|");
            b.say("STM", "AAAA", "", "OK|BND 9 0 0 9 0|");
        }
    }

    /** "PAY with a leg not in the first currency is 07": while there is none, every leg is such a one */
    private static void noFirstCurrencyInFinal() {
        Bench b = new Bench("no first currency");
        b.quietly("AST", "CBNK", "BNDS" + ONE + "00");
        b.quietly("NEW", "CBNK", "AAAA");
        b.quietly("NEW", "CBNK", "BBBB");
        b.tick(800);
        b.say("PAY", "AAAA", "11" + Bench.leg("AAAA", "BBBB", "BND", 1), "NO 07|");
        b.quietly("AST", "CBNK", "EURC" + NIL + "00");
        b.say("PAY", "AAAA", "11" + Bench.leg("AAAA", "BBBB", "EUR", 1), "OK WAIT|");
        b.say("PAY", "AAAA", "11" + Bench.leg("AAAA", "BBBB", "BND", 1), "NO 07|");
    }

    /** "At ticks 150, 200, .., 900 gridlock is resolved." */
    private static void resolvedAtEachOfTheseTicks() {
        for (int at = 101; at <= 900; at++) {
            Bench b = Bench.at("resolved at " + at, at - 1);
            b.post(Bench.signed("PAYAAAARING0000" + eur(1, "AAAA", "BBBB", 5)));
            b.post(Bench.signed("PAYBBBBRING0000" + eur(1, "BBBB", "AAAA", 5)));
            boolean due = at >= 150 && at % 50 == 0;
            b.pass(1, due ? "SAAAARING0000|SBBBBRING0000|" : "");
            b.counts(5, due ? 0 : 2);
        }
    }

    /** The same in a call over many ticks: at the first of them on the way. */
    private static void resolvedInOneCall() {
        Bench b = Bench.open("in one call");
        b.post(Bench.signed("PAYAAAARING0000" + eur(1, "AAAA", "BBBB", 5)));
        b.post(Bench.signed("PAYBBBBRING0000" + eur(1, "BBBB", "AAAA", 5)));
        b.post(Bench.signed("PAYCCCCALONE000" + eur(1, "CCCC", "AAAA", 5)));
        b.pass(1000, "SAAAARING0000|SBBBBRING0000|BCCCCALONE000|");
        b.counts(1, 1);
        b.counts(2, 100);
        b.counts(5, 0);
    }

    /** "all instructions that are not over are sent back (in the order, those that are to be confirmed behind, by when they came)" */
    private static void sentBackInTheOrder() {
        Bench b = Bench.open("sent back");
        b.sayAs("PAY", "AAAA", "ASKED001", eur(9, "BBBB", "CCCC", 5), "OK CONF|");
        b.sayAs("PAY", "AAAA", "WAITS001", eur(9, "AAAA", "CCCC", 5), "OK WAIT|");
        b.sayAs("PAY", "AAAA", "ASKED002", eur(1, "BBBB", "CCCC", 5), "OK CONF|");
        b.sayAs("PAY", "DDDD", "WAITS002", eur(1, "DDDD", "CCCC", 5), "OK WAIT|");
        b.sayAs("PAY", "AAAA", "ASKED003", eur(5, "BBBB", "CCCC", 5), "OK CONF|");
        b.sayAs("PAY", "AAAA", "WAITS003", eur(9, "AAAA", "CCCC", 5), "OK WAIT|");
        b.sayAs("PAY", "AAAA", "ASKED004", eur(1, "BBBB", "CCCC", 5), "OK CONF|");
        b.say("PRI", "AAAA", "WAITS0019", "OK|");
        b.say("CNF", "BBBB", "AAAAASKED003", "OK WAIT|");
        b.say("CAN", "AAAA", "ASKED004", "OK|");
        b.pass(799, "");
        b.counts(5, 4);
        b.counts(6, 2);
        b.pass(1, "BDDDDWAITS002|BAAAAASKED003|BAAAAWAITS003|BAAAAWAITS001|BAAAAASKED001|BAAAAASKED002|");
        b.counts(5, 0);
        b.counts(6, 0);
        b.pass(100, "");
    }

    /** "At 900, then, ..": the gridlock is resolved before they are sent back */
    private static void resolvedThenSentBack() {
        Bench b = Bench.at("then", 899);
        b.sayAs("PAY", "CCCC", "ALONE000", eur(1, "CCCC", "AAAA", 5), "OK WAIT|");
        b.sayAs("PAY", "AAAA", "RING0000", eur(9, "AAAA", "BBBB", 5), "OK WAIT|");
        b.sayAs("PAY", "BBBB", "RING0000", eur(8, "BBBB", "AAAA", 5), "OK WAIT|");
        b.pass(1, "SBBBBRING0000|SAAAARING0000|BCCCCALONE000|");
        b.say("STM", "AAAA", "", "OK|EUR 0 5 5 0 2|");
    }

    /** "nothing settles behind that": what was sent back does not, though what it waited for comes */
    private static void nothingSettlesBehindThat() {
        Bench b = Bench.open("nothing behind that");
        b.issue("EUR", "AAAA", 5);
        b.quietly("LIM", "AAAA", "BBBB" + NIL);
        b.sayAs("PAY", "AAAA", "ROOM0000", eur(1, "AAAA", "BBBB", 5), "OK WAIT|");
        // The first one would free the second one by leaving, but both are sent back.
        b.sayAs("PAY", "AAAA", "FREE0000", eur(2, "AAAA", "CCCC", 5), "OK WAIT|");
        b.pass(800, "BAAAAROOM0000|BAAAAFREE0000|");
        b.holds(1, 0, 5);
        b.say("UNL", "AAAA", "BBBB", "OK|");
        b.pass(100, "");
        b.pass(1000, "");
        b.holds(1, 0, 5);
    }

    /** "At 0 a day begins: references are free again, all that was paid between two is 0, sums of the day are 0, positions are as they were." */
    private static void aDayBegins() {
        Bench b = Bench.at("a day begins", 899);
        b.issue("EUR", "AAAA", 10);
        b.quietly("LIM", "AAAA", "BBBB" + Bench.amount(6));
        b.sayAs("PAY", "AAAA", "SAME0000", eur(1, "AAAA", "BBBB", 6), "OK DONE|SAAAASAME0000|");
        b.pass(100, "");
        b.say("STM", "AAAA", "", "OK|EUR 0 6 10 4 2|");
        b.say("LIM", "AAAA", "BBBB" + Bench.amount(5), "NO 09|");
        b.sayAs("LIM", "AAAA", "SAME0000", "BBBB" + Bench.amount(6), "NO 06|");
        b.pass(1, "");
        b.say("STM", "AAAA", "", "OK|EUR 4 0 0 4 0|");
        b.say("STM", "BBBB", "", "OK|EUR 6 0 0 6 0|");
        b.say("STM", "CBNK", "", "OK|EUR -10 0 0 -10 0|");
        b.holds(0, 0, -10);
        b.holds(1, 0, 4);
        b.sayAs("LIM", "AAAA", "SAME0000", "BBBB" + Bench.amount(0), "OK|");
        b.counts(3, 5);
        b.counts(4, 3);
    }

    /** "a line behind OK for each asset in which the sender had a position other than 0 when the day began, or one that moved" */
    private static void theStatementsAssets() {
        Bench b = Bench.open("statement");
        b.say("STM", "AAAA", "", "OK|");
        b.say("STM", "CBNK", "", "OK|");
        b.issue("EUR", "AAAA", 5);
        b.issue("USD", "AAAA", 5);
        b.quietly("RED", "CBNK", "USDAAAA" + Bench.amount(5));
        // Moved to 0 again on its first day: a line; on the next one: none.
        b.say("STM", "AAAA", "", "OK|EUR 0 0 5 5 1|USD 0 5 5 0 2|");
        b.tick(1000);
        b.say("STM", "AAAA", "", "OK|EUR 5 0 0 5 0|");
        b.quietly("RED", "CBNK", "EURAAAA" + Bench.amount(5));
        b.say("STM", "AAAA", "", "OK|EUR 5 5 0 0 1|");
        b.tick(1000);
        b.say("STM", "AAAA", "", "OK|");
        b.say("STM", "CBNK", "", "OK|");
        // What waits, a pledge, a limit and a price move nothing.
        b.issue("BND", "BBBB", 5);
        b.tick(1000);
        b.quietly("PLG", "BBBB", "BND" + Bench.amount(5));
        b.quietly("LIM", "BBBB", "AAAA" + Bench.amount(5));
        b.quietly("PRC", "CBNK", "BND" + Bench.amount(5) + "00");
        b.say("PAY", "BBBB", eur(1, "BBBB", "AAAA", 6), "OK WAIT|");
        b.say("STM", "BBBB", "", "OK|BND 5 0 0 5 0|");
        b.say("STM", "AAAA", "", "OK|");
    }

    /** "position when the day began, all that went (from 0 on), all that came, the position now, how many .. moved it" */
    private static void theStatementsNumbers() {
        Bench b = Bench.open("numbers");
        b.issue("EUR", "AAAA", 100);
        b.tick(1000);
        b.issue("EUR", "AAAA", 7);
        b.quietly("RED", "CBNK", "EURAAAA" + Bench.amount(3));
        b.quietly("PAY", "AAAA", eur(1, "AAAA", "BBBB", 20));
        b.quietly("PAY", "AAAA", eur(1, "AAAA", "BBBB", 1));
        b.quietly("PAY", "BBBB", eur(1, "BBBB", "AAAA", 2));
        b.say("STM", "AAAA", "", "OK|EUR 100 24 9 85 5|");
        b.say("STM", "BBBB", "", "OK|EUR 0 2 21 19 3|");
        b.say("STM", "CBNK", "", "OK|EUR -100 7 3 -104 2|");
        b.issue("BND", "CCCC", 1);
        b.quietly("PLG", "CCCC", "BND" + Bench.amount(1));
        b.quietly("PAY", "CCCC", eur(1, "CCCC", "AAAA", 90));
        b.say("STM", "CCCC", "", "OK|EUR 0 90 0 -90 1|BND 0 0 1 1 1|");
        b.tick(1000);
        b.quietly("PAY", "AAAA", eur(1, "AAAA", "CCCC", 95));
        b.say("STM", "CCCC", "", "OK|EUR -90 0 95 5 1|BND 1 0 0 1 0|");
    }

    /** "all by the nets of whole instructions: a net below 0 went, one above 0 came" */
    private static void netsOfWholeInstructions() {
        Bench b = Bench.open("whole instructions");
        b.issue("EUR", "AAAA", 100);
        b.tick(1000);
        b.sayAs("PAY", "AAAA", "FOUR0000", "14" + Bench.leg("AAAA", "BBBB", "EUR", 50) + Bench.leg("BBBB", "AAAA", "EUR", 20)
            + Bench.leg("AAAA", "CCCC", "EUR", 5) + Bench.leg("CCCC", "BBBB", "EUR", 9), "OK CONF|");
        b.say("CNF", "BBBB", "AAAAFOUR0000", "OK CONF|");
        b.say("CNF", "CCCC", "AAAAFOUR0000", "OK WAIT|");
        b.issue("EUR", "CCCC", 4);
        b.say("STM", "AAAA", "", "OK|EUR 100 35 0 65 1|");
        b.say("STM", "BBBB", "", "OK|EUR 0 0 39 39 1|");
        b.say("STM", "CCCC", "", "OK|EUR 0 4 4 0 2|");
        // In a set that is resolved each one counts by itself.
        b.sayAs("PAY", "CCCC", "RING0000", eur(1, "CCCC", "DDDD", 7), "OK WAIT|");
        b.sayAs("PAY", "DDDD", "RING0000", eur(1, "DDDD", "CCCC", 7), "OK WAIT|");
        b.say("RES", "CBNK", "", "OK|SCCCCRING0000|SDDDDRING0000|");
        b.say("STM", "CCCC", "", "OK|EUR 0 11 11 0 4|");
        b.say("STM", "DDDD", "", "OK|EUR 0 7 7 0 2|");
    }

    /** "one of 0 is no move" */
    private static void netOfNothingIsNoMove() {
        Bench b = Bench.open("no move");
        b.sayAs("PAY", "AAAA", "ZERO0000", "12" + Bench.leg("AAAA", "BBBB", "EUR", 5) + Bench.leg("BBBB", "AAAA", "EUR", 5), "OK CONF|");
        b.say("CNF", "BBBB", "AAAAZERO0000", "OK DONE|SAAAAZERO0000|");
        b.say("STM", "AAAA", "", "OK|");
        b.say("STM", "BBBB", "", "OK|");
        b.issue("EUR", "AAAA", 5);
        b.sayAs("PAY", "AAAA", "PASS0000", "12" + Bench.leg("AAAA", "BBBB", "EUR", 5) + Bench.leg("BBBB", "CCCC", "EUR", 5), "OK CONF|");
        b.say("CNF", "BBBB", "AAAAPASS0000", "OK DONE|SAAAAPASS0000|");
        b.say("STM", "AAAA", "", "OK|EUR 0 5 5 0 2|");
        b.say("STM", "BBBB", "", "OK|");
        b.say("STM", "CCCC", "", "OK|EUR 0 0 5 5 1|");
    }

    /** "assets by when they came" */
    private static void assetsByWhenTheyCame() {
        Bench b = Bench.open("by when they came");
        b.quietly("AST", "CBNK", "ZZZC" + NIL + "00");
        b.quietly("AST", "CBNK", "000S" + NIL + "00");
        b.quietly("AST", "CBNK", "AAAC" + NIL + "00");
        for (String asset : new String[] {"AAA", "000", "BND", "ZZZ", "EUR", "USD"}) {
            b.issue(asset, "AAAA", 1);
        }
        b.say("STM", "AAAA", "", "OK|EUR 0 0 1 1 1|USD 0 0 1 1 1|BND 0 0 1 1 1|ZZZ 0 0 1 1 1|000 0 0 1 1 1|AAA 0 0 1 1 1|");
    }

    /** "numbers in digits, - before one below 0, with blanks between .. All of these fit 19 digits." */
    private static void statementsOfManyDigits() {
        Bench b = Bench.open("many digits");
        long largest = 999999999999999L;
        b.quietly("PRC", "CBNK", "BND" + Bench.amount(4000000000000L) + "00");
        b.issue("BND", "AAAA", 1000000);
        b.quietly("PLG", "AAAA", "BND" + Bench.amount(1000000));
        String legs = Bench.leg("AAAA", "BBBB", "EUR", largest).repeat(4);
        for (int i = 0; i < 40; i++) {
            b.quietly("PAY", "AAAA", "14" + legs);
        }
        b.say("STM", "AAAA", "", "OK|EUR 0 159999999999999840 0 -159999999999999840 40|BND 0 0 1000000 1000000 1|");
        b.say("STM", "BBBB", "", "OK|EUR 0 0 159999999999999840 159999999999999840 40|");
        b.tick(1000);
        b.say("STM", "AAAA", "", "OK|EUR -159999999999999840 0 0 -159999999999999840 0|BND 1000000 0 0 1000000 0|");
    }

    /** "a line behind OK for each asset": of 64 that there can be, every third one and the last one */
    private static void statementsOfAllAssets() {
        Bench b = new Bench("all assets");
        for (int i = 10; i < 74; i++) {
            b.quietly("AST", "CBNK", "A" + i + "C" + NIL + "00");
        }
        b.quietly("NEW", "CBNK", "AAAA");
        b.tick(100);
        b.say("STM", "CBNK", "", "OK|");
        StringBuilder lines = new StringBuilder("OK|");
        for (int i = 10; i < 74; i += 3) {
            b.issue("A" + i, "AAAA", 1);
            lines.append("A" + i + " 0 1 0 -1 1|");
        }
        b.say("STM", "CBNK", "", lines.toString());
    }

    /** STM is taken and told at any tick, and is no record. */
    private static void statementsInEveryPhase() {
        Bench b = Bench.open("in every phase");
        b.issue("EUR", "AAAA", 5);
        for (int at : new int[] {699, 700, 800, 900, 999}) {
            b.tick(at - b.count(2));
            b.say("STM", "AAAA", "", "OK|EUR 0 0 5 5 1|");
        }
        int written = b.count(9);
        b.tick(1);
        b.say("STM", "AAAA", "", "OK|EUR 5 0 0 5 0|");
        b.counts(9, written + 3);
    }

    /** "A tick's lines are as those of a message without its first line." */
    private static void aTicksLines() {
        Bench b = Bench.open("lines of a tick");
        b.pass(1, "");
        b.sayAs("PAY", "AAAA", "RING0000", eur(1, "AAAA", "BBBB", 5), "OK WAIT|");
        b.sayAs("PAY", "BBBB", "RING0000", eur(1, "BBBB", "AAAA", 5), "OK WAIT|");
        b.tick(49);
        b.is("SAAAARI", b.fetch(), 0x0753414141415249L);
        b.is("NG0000 and the end", b.fetch(), 0x074E47303030300AL);
        b.is("SBBBBRI", b.fetch(), 0x0753424242425249L);
        b.is("NG0000 and the end", b.fetch(), 0x074E47303030300AL);
        b.is("no more", b.fetch(), 0L);
    }
}
