/** The edges of the document's INSTRUCTIONS: a method for each sentence, which stands above it. */
public final class InstructionEdgesTest {
    private static final String[] ALL = {"AAAA", "BBBB", "CCCC", "DDDD"};

    public static void main(String[] args) {
        whoeverMaySend();
        eachFromWhichALegGoes();
        overWhenSettled();
        overWhenGivenUp();
        overWhenSentBack();
        thereIsNot();
        doneWaitConf();
        priorityAlone();
        alsoIfItHasIt();
        netOfNothing();
        netOfRooms();
        theOrderOfOnePriority();
        whenTheLastOneConfirmed();
        noneBeforeItTakesTheSame();
        whoDoesNotStandBefore();
        toItsFloor();
        allItsNets();
        anInstructionCame();
        anInstructionLeft();
        aPositionFloorOrLimitChanged();
        howeverOftenItWasResolved();
        anewFromTheFirst();
        setOfNone();
        setOfOne();
        setToItsFloor();
        setWithAllBeforeEachOne();
        setWithoutMoreThanNeedsBe();
        setWithoutThoseBehindOneThatIsOut();
        setOfSeveralAssets();
        setAtOnce();
        thenAsAbove();
        linesOfTheSettled();
        Bench.finish();
    }

    private static String pay(int priority, String from, String to, String asset, long n) {
        return priority + "1" + Bench.leg(from, to, asset, n);
    }

    private static String eur(int priority, String from, String to, long n) {
        return pay(priority, from, to, "EUR", n);
    }

    /** "Whoever may send PAY, the bank, too, also one from whom no leg goes." */
    private static void whoeverMaySend() {
        Bench b = Bench.open("whoever");
        b.issue("EUR", "AAAA", 10);
        for (String sender : new String[] {"CBNK", "BBBB", "CCCC"}) {
            b.sayAs("PAY", sender, "SENT0000", eur(5, "AAAA", "BBBB", 1), "OK CONF|");
            b.say("CNF", "AAAA", sender + "SENT0000", "OK DONE|S" + sender + "SENT0000|");
        }
        b.sayAs("PAY", "AAAA", "SENT0000", eur(5, "AAAA", "BBBB", 1), "OK DONE|SAAAASENT0000|");
        b.holds(2, 0, 4);
    }

    /** "An instruction is CONFIRMED by its sender, and needs to be by each participant from which a leg goes; when all have, it is queued." */
    private static void eachFromWhichALegGoes() {
        Bench b = Bench.open("each");
        StringBuilder legs = new StringBuilder();
        for (int i = 0; i < 4; i++) {
            legs.append(Bench.leg(ALL[i], ALL[(i + 1) % 4], "EUR", 5));
        }
        b.sayAs("PAY", "CBNK", "FOUR0000", "14" + legs, "OK CONF|");
        for (int i : new int[] {3, 1, 0}) {
            b.say("CNF", ALL[i], "CBNKFOUR0000", "OK CONF|");
            b.counts(5, 0);
            b.counts(6, 1);
        }
        b.say("CNF", ALL[2], "CBNKFOUR0000", "OK DONE|SCBNKFOUR0000|");
        b.counts(6, 0);
        // From whom four legs go, confirms once; to whom they go, not at all.
        String four = Bench.leg("AAAA", "BBBB", "EUR", 1).repeat(4);
        b.sayAs("PAY", "BBBB", "SAME0000", "14" + four, "OK CONF|");
        b.say("CNF", "AAAA", "BBBBSAME0000", "OK WAIT|");
        b.counts(5, 1);
        b.sayAs("PAY", "AAAA", "OWN00000", "14" + four, "OK WAIT|");
        b.counts(5, 2);
        b.counts(6, 0);
    }

    private static void overIsOver(Bench b, String sender, String reference) {
        b.say("CNF", "AAAA", sender + reference, "NO 11|");
        b.say("CNF", "BBBB", sender + reference, "NO 11|");
        b.say("CAN", sender, reference, "NO 11|");
        b.say("PRI", sender, reference + "5", "NO 11|");
    }

    /** "It is OVER when it has settled", "11: CNF, CAN, PRI of one that is over" */
    private static void overWhenSettled() {
        Bench b = Bench.open("settled");
        b.issue("EUR", "AAAA", 3);
        b.sayAs("PAY", "AAAA", "ATONCE00", eur(5, "AAAA", "BBBB", 1), "OK DONE|SAAAAATONCE00|");
        overIsOver(b, "AAAA", "ATONCE00");
        b.sayAs("PAY", "BBBB", "BYCNF000", eur(5, "AAAA", "BBBB", 1), "OK CONF|");
        b.say("CNF", "AAAA", "BBBBBYCNF000", "OK DONE|SBBBBBYCNF000|");
        overIsOver(b, "BBBB", "BYCNF000");
        b.sayAs("PAY", "AAAA", "LATER000", eur(5, "AAAA", "BBBB", 2), "OK WAIT|");
        b.say("ISS", "CBNK", "EURAAAA" + Bench.amount(1), "OK|SAAAALATER000|");
        overIsOver(b, "AAAA", "LATER000");
    }

    /** ".. was given up", of one that waits and of one that is to be confirmed */
    private static void overWhenGivenUp() {
        Bench b = Bench.open("given up");
        b.sayAs("PAY", "AAAA", "WAITS000", eur(5, "AAAA", "BBBB", 1), "OK WAIT|");
        b.sayAs("PAY", "BBBB", "ASKED000", eur(5, "AAAA", "BBBB", 1), "OK CONF|");
        // "the sender's own instruction": not that of another one, though a leg goes from them.
        b.say("CAN", "AAAA", "ASKED000", "NO 11|");
        b.say("CAN", "BBBB", "WAITS000", "NO 11|");
        b.say("CAN", "CBNK", "WAITS000", "NO 11|");
        b.say("CAN", "AAAA", "WAITS000", "OK|");
        b.counts(5, 0);
        overIsOver(b, "AAAA", "WAITS000");
        b.say("CAN", "BBBB", "ASKED000", "OK|");
        b.counts(6, 0);
        overIsOver(b, "BBBB", "ASKED000");
        b.say("ISS", "CBNK", "EURAAAA" + Bench.amount(9), "OK|");
        b.pass(800, "");
    }

    /** ".. or sent back" */
    private static void overWhenSentBack() {
        Bench b = Bench.at("sent back", 899);
        b.sayAs("PAY", "AAAA", "WAITS000", eur(5, "AAAA", "BBBB", 1), "OK WAIT|");
        b.sayAs("PAY", "BBBB", "ASKED000", eur(5, "AAAA", "BBBB", 1), "OK CONF|");
        b.pass(1, "BAAAAWAITS000|BBBBBASKED000|");
        b.counts(5, 0);
        b.counts(6, 0);
        b.pass(200, "");
        overIsOver(b, "AAAA", "WAITS000");
        overIsOver(b, "BBBB", "ASKED000");
        b.say("ISS", "CBNK", "EURAAAA" + Bench.amount(9), "OK|");
        b.pass(800, "");
    }

    /** "11: CNF, CAN, PRI of one .. that there is not" */
    private static void thereIsNot() {
        Bench b = Bench.open("is not");
        overIsOver(b, "AAAA", "NOTHING0");
        overIsOver(b, "CBNK", "00000000");
        b.sayAs("LIM", "AAAA", "ALIMIT00", "BBBB" + Bench.amount(1), "OK|");
        overIsOver(b, "AAAA", "ALIMIT00");
        b.sayAs("PAY", "AAAA", "WAITS000", eur(5, "AAAA", "BBBB", 1), "OK WAIT|");
        overIsOver(b, "BBBB", "WAITS000");
        overIsOver(b, "AAAA", "WAITS001");
        overIsOver(b, "AAAA", "AITS0000");
        b.counts(5, 1);
    }

    /** "PAY and CNF answer OK DONE if it has settled by this message, OK WAIT if it is queued behind it, OK CONF if it is still to be confirmed." */
    private static void doneWaitConf() {
        Bench b = Bench.open("done, wait, conf");
        b.issue("EUR", "AAAA", 5);
        b.sayAs("PAY", "AAAA", "DONE0000", eur(5, "AAAA", "BBBB", 5), "OK DONE|SAAAADONE0000|");
        b.sayAs("PAY", "AAAA", "WAIT0000", eur(5, "AAAA", "BBBB", 6), "OK WAIT|");
        b.sayAs("PAY", "AAAA", "CONF0000", "52" + Bench.leg("BBBB", "AAAA", "EUR", 1) + Bench.leg("CCCC", "AAAA", "EUR", 1), "OK CONF|");
        b.say("CNF", "BBBB", "AAAACONF0000", "OK CONF|");
        b.say("CNF", "CCCC", "AAAACONF0000", "OK WAIT|");
        // It settles and lets another one settle: the line of the message speaks of its own alone.
        b.say("ISS", "CBNK", "EURCCCC" + Bench.amount(1), "OK|SAAAACONF0000|");
        b.sayAs("PAY", "BBBB", "GIVES000", eur(5, "BBBB", "AAAA", 4), "OK DONE|SBBBBGIVES000|SAAAAWAIT0000|");
        // It comes ahead of one that could not settle, and waits with it.
        b.sayAs("PAY", "DDDD", "CONF0001", eur(1, "CCCC", "DDDD", 1), "OK CONF|");
        b.sayAs("PAY", "CCCC", "WAIT0001", eur(5, "CCCC", "DDDD", 1), "OK WAIT|");
        b.say("CNF", "CCCC", "DDDDCONF0001", "OK WAIT|");
    }

    /** "PRI of one that is to be confirmed: its priority alone." */
    private static void priorityAlone() {
        Bench b = Bench.open("its priority alone");
        b.sayAs("PAY", "BBBB", "ASKED001", eur(5, "AAAA", "BBBB", 1), "OK CONF|");
        b.sayAs("PAY", "BBBB", "ASKED002", eur(5, "AAAA", "BBBB", 1), "OK CONF|");
        b.sayAs("PAY", "AAAA", "WAITS000", eur(5, "AAAA", "BBBB", 1), "OK WAIT|");
        b.say("PRI", "BBBB", "ASKED0011", "OK|");
        b.say("PRI", "BBBB", "ASKED0029", "OK|");
        b.counts(5, 1);
        b.counts(6, 2);
        b.say("CNF", "AAAA", "BBBBASKED002", "OK WAIT|");
        b.say("CNF", "AAAA", "BBBBASKED001", "OK WAIT|");
        b.say("ISS", "CBNK", "EURAAAA" + Bench.amount(3), "OK|SBBBBASKED001|SAAAAWAITS000|SBBBBASKED002|");
        // Those to be confirmed are sent back by when they came, whatever their priorities, and PRI changes nothing there.
        for (int i = 3; i < 6; i++) {
            b.sayAs("PAY", "BBBB", "ASKED00" + i, eur(5, "AAAA", "BBBB", 1), "OK CONF|");
        }
        b.say("PRI", "BBBB", "ASKED0039", "OK|");
        b.say("PRI", "BBBB", "ASKED0051", "OK|");
        b.pass(800, "BBBBBASKED003|BBBBBASKED004|BBBBBASKED005|");
    }

    /** "it gets that priority (also if it has it), and comes behind all of that" */
    private static void alsoIfItHasIt() {
        Bench b = Bench.open("also if it has it");
        for (int i = 1; i <= 5; i++) {
            b.sayAs("PAY", "AAAA", "PAY0000" + i, eur(i == 5 ? 6 : 5, "AAAA", "BBBB", 1), "OK WAIT|");
        }
        b.say("PRI", "AAAA", "PAY000015", "OK|");
        b.say("PRI", "AAAA", "PAY000029", "OK|");
        b.say("PRI", "AAAA", "PAY000055", "OK|");
        b.say("PRI", "AAAA", "PAY000031", "OK|");
        b.say("PRI", "AAAA", "PAY000031", "OK|");
        b.say("ISS", "CBNK", "EURAAAA" + Bench.amount(9), "OK|SAAAAPAY00003|SAAAAPAY00004|SAAAAPAY00001|SAAAAPAY00005|SAAAAPAY00002|");
    }

    /** "It TAKES from those whose net is below 0.": one of 0 takes from none */
    private static void netOfNothing() {
        Bench b = Bench.open("net of 0");
        b.sayAs("PAY", "AAAA", "FIRST000", eur(1, "AAAA", "BBBB", 1), "OK WAIT|");
        b.sayAs("PAY", "BBBB", "FIRST000", eur(1, "BBBB", "AAAA", 9), "OK WAIT|");
        String both = Bench.leg("AAAA", "BBBB", "EUR", 7) + Bench.leg("BBBB", "AAAA", "EUR", 7);
        b.sayAs("PAY", "AAAA", "ZERO0000", "92" + both, "OK CONF|");
        b.say("CNF", "BBBB", "AAAAZERO0000", "OK DONE|SAAAAZERO0000|");
        b.say("STM", "AAAA", "", "OK|");
        // One less on one side, and it takes.
        String less = Bench.leg("AAAA", "CCCC", "EUR", 7) + Bench.leg("CCCC", "AAAA", "EUR", 6);
        b.sayAs("PAY", "AAAA", "LESS0000", "92" + less, "OK CONF|");
        b.say("CNF", "CCCC", "AAAALESS0000", "OK WAIT|");
        // In its turn it keeps no other from what it takes nothing from.
        b.say("CAN", "AAAA", "FIRST000", "OK|");
        b.counts(5, 2);
        b.say("ISS", "CBNK", "EURAAAA" + Bench.amount(1), "OK|SAAAALESS0000|");
    }

    /** "for each position the sum of what its legs do to it (rooms, too)" */
    private static void netOfRooms() {
        Bench b = Bench.open("net of rooms");
        b.issue("EUR", "AAAA", 100);
        b.quietly("LIM", "AAAA", "BBBB" + Bench.amount(0));
        // AAAA gets from CCCC what it pays BBBB: nothing is taken from its account, but from the room.
        String through = Bench.leg("AAAA", "BBBB", "EUR", 5) + Bench.leg("CCCC", "AAAA", "EUR", 5);
        b.issue("EUR", "CCCC", 5);
        b.sayAs("PAY", "AAAA", "ROOM0000", "52" + through, "OK CONF|");
        b.say("CNF", "CCCC", "AAAAROOM0000", "OK WAIT|");
        b.sayAs("PAY", "AAAA", "OTHER000", eur(9, "AAAA", "DDDD", 5), "OK DONE|SAAAAOTHER000|");
        b.sayAs("PAY", "AAAA", "ROOM0001", eur(9, "AAAA", "BBBB", 1), "OK WAIT|");
        // To and fro between the two is a net of 0 in the room.
        String both = Bench.leg("AAAA", "BBBB", "EUR", 7) + Bench.leg("BBBB", "AAAA", "EUR", 7);
        b.sayAs("PAY", "BBBB", "ZERO0000", "92" + both, "OK CONF|");
        b.say("CNF", "AAAA", "BBBBZERO0000", "OK DONE|SBBBBZERO0000|");
        b.say("LIM", "AAAA", "BBBB" + Bench.amount(5), "OK|SAAAAROOM0000|");
        b.say("LIM", "AAAA", "BBBB" + Bench.amount(6), "OK|SAAAAROOM0001|");
    }

    /** "ORDER: by priority, then by when it came to the queue" */
    private static void theOrderOfOnePriority() {
        Bench b = Bench.open("order");
        int[] priorities = {9, 1, 5, 5, 1, 9, 4, 6};
        for (int i = 0; i < priorities.length; i++) {
            b.sayAs("PAY", "AAAA", "PAY0000" + i, eur(priorities[i], "AAAA", "BBBB", 1), "OK WAIT|");
        }
        b.say("ISS", "CBNK", "EURAAAA" + Bench.amount(5), "OK|SAAAAPAY00001|SAAAAPAY00004|SAAAAPAY00006|SAAAAPAY00002|SAAAAPAY00003|");
        b.pass(800, "BAAAAPAY00007|BAAAAPAY00000|BAAAAPAY00005|");
    }

    /** "when the last one confirmed, or by PRI" */
    private static void whenTheLastOneConfirmed() {
        Bench b = Bench.open("when it came");
        b.sayAs("PAY", "CCCC", "ASKED000", "52" + Bench.leg("AAAA", "BBBB", "EUR", 1) + Bench.leg("DDDD", "BBBB", "USD", 1), "OK CONF|");
        b.issue("USD", "DDDD", 1);
        b.sayAs("PAY", "AAAA", "WAITS001", eur(5, "AAAA", "BBBB", 1), "OK WAIT|");
        b.say("CNF", "AAAA", "CCCCASKED000", "OK CONF|");
        b.sayAs("PAY", "AAAA", "WAITS002", eur(5, "AAAA", "BBBB", 1), "OK WAIT|");
        b.say("CNF", "DDDD", "CCCCASKED000", "OK WAIT|");
        b.sayAs("PAY", "AAAA", "WAITS003", eur(5, "AAAA", "BBBB", 1), "OK WAIT|");
        b.say("PRI", "AAAA", "WAITS0015", "OK|");
        b.say("ISS", "CBNK", "EURAAAA" + Bench.amount(4), "OK|SAAAAWAITS002|SCCCCASKED000|SAAAAWAITS003|SAAAAWAITS001|");
    }

    /** "none before it in the order that is queued takes from a position from which it takes" */
    private static void noneBeforeItTakesTheSame() {
        for (String asset : new String[] {"EUR", "USD", "BND"}) {
            Bench b = Bench.open("none before it " + asset);
            b.issue(asset, "AAAA", 10);
            b.sayAs("PAY", "AAAA", "LARGE000", pay(5, "AAAA", "BBBB", asset, 11), "OK WAIT|");
            b.sayAs("PAY", "AAAA", "SMALL000", pay(5, "AAAA", "CCCC", asset, 1), "OK WAIT|");
            b.sayAs("PAY", "AAAA", "SMALL001", pay(6, "AAAA", "CCCC", asset, 1), "OK WAIT|");
            b.sayAs("PAY", "AAAA", "AHEAD000", pay(4, "AAAA", "CCCC", asset, 1), "OK DONE|SAAAAAHEAD000|");
            b.say("PRI", "AAAA", "LARGE0006", "OK|SAAAASMALL000|SAAAASMALL001|");
        }
    }

    /** Who is to be confirmed, who comes behind it, and who gives there or takes elsewhere, does not stand before it. */
    private static void whoDoesNotStandBefore() {
        Bench b = Bench.open("who does not");
        b.issue("EUR", "AAAA", 10);
        b.sayAs("PAY", "BBBB", "ASKED000", eur(1, "AAAA", "BBBB", 99), "OK CONF|");
        b.sayAs("PAY", "AAAA", "PAY00001", eur(5, "AAAA", "BBBB", 1), "OK DONE|SAAAAPAY00001|");
        b.sayAs("PAY", "AAAA", "OTHER000", pay(1, "AAAA", "BBBB", "USD", 1), "OK WAIT|");
        b.sayAs("PAY", "CCCC", "GIVES000", eur(1, "CCCC", "AAAA", 1), "OK WAIT|");
        b.sayAs("PAY", "AAAA", "BEHIND00", eur(9, "AAAA", "BBBB", 99), "OK WAIT|");
        b.sayAs("PAY", "AAAA", "PAY00002", eur(8, "AAAA", "BBBB", 9), "OK DONE|SAAAAPAY00002|");
        b.counts(5, 3);
    }

    /** "no position from which it takes would fall below its floor by its net" */
    private static void toItsFloor() {
        Bench b = Bench.open("to its floor");
        b.issue("EUR", "AAAA", 10);
        b.sayAs("PAY", "AAAA", "OVER0000", eur(5, "AAAA", "BBBB", 11), "OK WAIT|");
        b.say("CAN", "AAAA", "OVER0000", "OK|");
        b.sayAs("PAY", "AAAA", "EXACT000", eur(5, "AAAA", "BBBB", 10), "OK DONE|SAAAAEXACT000|");
        b.holds(1, 0, 0);
        // By its net, not by its legs: 10 go in three legs and 4 come back in one.
        b.sayAs("PAY", "BBBB", "NET00000", "54" + Bench.leg("BBBB", "CCCC", "EUR", 7) + Bench.leg("BBBB", "AAAA", "EUR", 3)
            + Bench.leg("BBBB", "AAAA", "EUR", 4) + Bench.leg("CCCC", "BBBB", "EUR", 4), "OK CONF|");
        b.say("CNF", "CCCC", "BBBBNET00000", "OK DONE|SBBBBNET00000|");
        b.holds(2, 0, 0);
        b.holds(3, 0, 3);
    }

    /** "When it settles all its nets are done.", and none if it does not */
    private static void allItsNets() {
        Bench b = Bench.open("all its nets");
        b.issue("EUR", "AAAA", 5);
        b.issue("USD", "BBBB", 5);
        b.issue("BND", "CCCC", 4);
        b.sayAs("PAY", "CBNK", "FOUR0000", "54" + Bench.leg("AAAA", "BBBB", "EUR", 5) + Bench.leg("BBBB", "CCCC", "USD", 5)
            + Bench.leg("CCCC", "DDDD", "BND", 5) + Bench.leg("AAAA", "DDDD", "USD", 1), "OK CONF|");
        b.say("CNF", "AAAA", "CBNKFOUR0000", "OK CONF|");
        b.say("CNF", "BBBB", "CBNKFOUR0000", "OK CONF|");
        b.say("CNF", "CCCC", "CBNKFOUR0000", "OK WAIT|");
        b.say("ISS", "CBNK", "BNDCCCC" + Bench.amount(1), "OK|");
        long[] before = {5, 0, 0, 0, 5, 0, 0, 0, 5, 0, 0, 0};
        long[] behind = {0, 0, 0, 5, 0, 0, 0, 5, 0, 0, 1, 5};
        for (int i = 0; i < 12; i++) {
            b.holds(1 + i / 3, i % 3, before[i]);
        }
        b.say("ISS", "CBNK", "USDAAAA" + Bench.amount(1), "OK|SCBNKFOUR0000|");
        for (int i = 0; i < 12; i++) {
            b.holds(1 + i / 3, i % 3, behind[i]);
        }
    }

    /** "Whenever something may have changed (an instruction came, settled ..)" */
    private static void anInstructionCame() {
        Bench b = Bench.open("came");
        b.issue("EUR", "AAAA", 5);
        b.sayAs("PAY", "BBBB", "SECOND00", eur(5, "BBBB", "CCCC", 5), "OK WAIT|");
        b.sayAs("PAY", "CCCC", "THIRD000", eur(5, "CCCC", "DDDD", 5), "OK WAIT|");
        b.sayAs("PAY", "AAAA", "FIRST000", eur(9, "AAAA", "BBBB", 5), "OK DONE|SAAAAFIRST000|SBBBBSECOND00|SCCCCTHIRD000|");
        b.sayAs("PAY", "CCCC", "SECOND01", eur(5, "CCCC", "AAAA", 5), "OK WAIT|");
        b.sayAs("PAY", "CCCC", "FIRST001", eur(9, "DDDD", "CCCC", 5), "OK CONF|");
        b.say("CNF", "DDDD", "CCCCFIRST001", "OK DONE|SCCCCFIRST001|SCCCCSECOND01|");
    }

    /** "(.. or left, PRI ..)" */
    private static void anInstructionLeft() {
        Bench b = Bench.open("left");
        b.issue("EUR", "AAAA", 5);
        b.sayAs("PAY", "AAAA", "LARGE000", eur(5, "AAAA", "BBBB", 9), "OK WAIT|");
        b.sayAs("PAY", "AAAA", "SMALL001", eur(5, "AAAA", "BBBB", 1), "OK WAIT|");
        b.sayAs("PAY", "AAAA", "SMALL002", eur(6, "AAAA", "BBBB", 1), "OK WAIT|");
        b.say("PRI", "AAAA", "LARGE0005", "OK|SAAAASMALL001|");
        b.say("CAN", "AAAA", "LARGE000", "OK|SAAAASMALL002|");
        b.sayAs("PAY", "AAAA", "LARGE001", eur(5, "AAAA", "BBBB", 9), "OK WAIT|");
        b.sayAs("PAY", "AAAA", "SMALL003", eur(6, "AAAA", "BBBB", 1), "OK WAIT|");
        b.say("PRI", "AAAA", "SMALL0031", "OK|SAAAASMALL003|");
        b.counts(5, 1);
    }

    /** "(.. a position, floor or limit changed)" */
    private static void aPositionFloorOrLimitChanged() {
        Bench b = Bench.open("changed");
        b.issue("BND", "AAAA", 10);
        b.sayAs("PAY", "AAAA", "PAY00001", eur(1, "AAAA", "BBBB", 100), "OK WAIT|");
        b.say("ISS", "CBNK", "EURAAAA" + Bench.amount(99), "OK|");
        b.say("ISS", "CBNK", "EURAAAA" + Bench.amount(1), "OK|SAAAAPAY00001|");
        b.sayAs("PAY", "AAAA", "PAY00002", eur(1, "AAAA", "BBBB", 180), "OK WAIT|");
        b.say("PLG", "AAAA", "BND" + Bench.amount(1), "OK|");
        b.say("PLG", "AAAA", "BND" + Bench.amount(1), "OK|SAAAAPAY00002|");
        b.sayAs("PAY", "AAAA", "PAY00003", eur(1, "AAAA", "BBBB", 20), "OK WAIT|");
        b.say("PRC", "CBNK", "BND" + Bench.amount(199) + "50", "OK|");
        b.say("PRC", "CBNK", "BND" + Bench.amount(200) + "50", "OK|SAAAAPAY00003|");
        b.sayAs("PAY", "AAAA", "PAY00004", pay(1, "AAAA", "CCCC", "BND", 9), "OK WAIT|");
        b.quietly("ISS", "CBNK", "EURAAAA" + Bench.amount(200));
        b.say("UNP", "AAAA", "BND" + Bench.amount(1), "OK|SAAAAPAY00004|");
        b.quietly("LIM", "BBBB", "CCCC" + Bench.amount(0));
        b.sayAs("PAY", "BBBB", "PAY00005", eur(1, "BBBB", "CCCC", 2), "OK WAIT|");
        b.say("LIM", "BBBB", "CCCC" + Bench.amount(1), "OK|");
        b.say("LIM", "BBBB", "CCCC" + Bench.amount(2), "OK|SBBBBPAY00005|");
        b.sayAs("PAY", "BBBB", "PAY00006", eur(1, "BBBB", "CCCC", 1), "OK WAIT|");
        b.say("UNL", "BBBB", "CCCC", "OK|SBBBBPAY00006|");
    }

    /** "Whenever something may have changed": also behind many that were resolved with nothing to settle */
    private static void howeverOftenItWasResolved() {
        Bench b = Bench.open("however often");
        b.issue("EUR", "AAAA", 100);
        for (int i = 10; i < 40; i++) {
            for (int k = 0; k < 3; k++) {
                b.quietly("RES", "CBNK", "");
            }
            b.sayAs("PAY", "AAAA", "PAY000" + i, eur(5, "AAAA", "BBBB", 1), "OK DONE|SAAAAPAY000" + i + "|");
        }
        b.holds(2, 0, 30);
    }

    /** "the first in the order that can settle does; then anew from the first, until none can" */
    private static void anewFromTheFirst() {
        Bench b = Bench.open("anew");
        // CCCC's own comes first in the order, but can settle only behind that of the one that comes last.
        b.sayAs("PAY", "CCCC", "P1000000", eur(1, "CCCC", "DDDD", 2), "OK WAIT|");
        b.sayAs("PAY", "CCCC", "P2000000", eur(2, "CCCC", "DDDD", 2), "OK WAIT|");
        b.sayAs("PAY", "BBBB", "P3000000", eur(3, "BBBB", "CCCC", 3), "OK WAIT|");
        b.sayAs("PAY", "AAAA", "P4000000", eur(4, "AAAA", "BBBB", 3), "OK WAIT|");
        b.sayAs("PAY", "AAAA", "P5000000", eur(5, "AAAA", "CCCC", 1), "OK WAIT|");
        b.say("ISS", "CBNK", "EURAAAA" + Bench.amount(9), "OK|SAAAAP4000000|SBBBBP3000000|SCCCCP1000000|SAAAAP5000000|SCCCCP2000000|");
        b.counts(5, 0);
        b.holds(4, 0, 4);
    }

    /** "RESOLVING": the greatest set may be that of none */
    private static void setOfNone() {
        Bench b = Bench.open("set of none");
        b.say("RES", "CBNK", "", "OK|");
        b.sayAs("PAY", "AAAA", "PAY00001", eur(5, "AAAA", "BBBB", 2), "OK WAIT|");
        b.say("RES", "CBNK", "", "OK|");
        b.sayAs("PAY", "BBBB", "PAY00002", eur(5, "BBBB", "AAAA", 1), "OK WAIT|");
        b.say("RES", "CBNK", "", "OK|");
        b.pass(50, "");
        b.counts(5, 2);
    }

    /** Those to be confirmed are in no set: "of the sets of queued instructions" */
    private static void setOfOne() {
        Bench b = Bench.open("queued alone");
        b.sayAs("PAY", "AAAA", "PAY00001", eur(5, "AAAA", "BBBB", 2), "OK WAIT|");
        b.sayAs("PAY", "AAAA", "PAY00002", eur(5, "BBBB", "AAAA", 2), "OK CONF|");
        b.say("RES", "CBNK", "", "OK|");
        b.say("CNF", "BBBB", "AAAAPAY00002", "OK WAIT|");
        b.say("RES", "CBNK", "", "OK|SAAAAPAY00001|SAAAAPAY00002|");
    }

    /** "by which no position falls below its floor if all nets in it are done together" */
    private static void setToItsFloor() {
        for (int short1 = 0; short1 <= 1; short1++) {
            Bench b = Bench.open("set to its floor");
            b.issue("BND", "AAAA", 1);
            b.quietly("PLG", "AAAA", "BND" + Bench.amount(1));
            b.quietly("LIM", "BBBB", "CCCC" + Bench.amount(1000 - short1));
            // AAAA falls to its credit of 90, BBBB's room towards CCCC to 0, BBBB and CCCC to 0.
            b.sayAs("PAY", "AAAA", "PAY00001", eur(5, "AAAA", "BBBB", 1000), "OK WAIT|");
            b.sayAs("PAY", "BBBB", "PAY00002", eur(5, "BBBB", "CCCC", 1000), "OK WAIT|");
            b.sayAs("PAY", "CCCC", "PAY00003", eur(5, "CCCC", "AAAA", 910), "OK WAIT|");
            b.say("RES", "CBNK", "", short1 == 0 ? "OK|SAAAAPAY00001|SBBBBPAY00002|SCCCCPAY00003|" : "OK|");
            b.holds(1, 0, short1 == 0 ? -90 : 0);
            b.holds(3, 0, short1 == 0 ? 90 : 0);
        }
        Bench b = Bench.open("set below its floor");
        b.issue("BND", "AAAA", 1);
        b.quietly("PLG", "AAAA", "BND" + Bench.amount(1));
        b.sayAs("PAY", "AAAA", "PAY00001", eur(5, "AAAA", "BBBB", 1000), "OK WAIT|");
        b.sayAs("PAY", "BBBB", "PAY00002", eur(5, "BBBB", "AAAA", 909), "OK WAIT|");
        b.say("RES", "CBNK", "", "OK|");
        b.say("PRC", "CBNK", "BND" + Bench.amount(91) + "00", "OK|");
        b.say("RES", "CBNK", "", "OK|SAAAAPAY00001|SBBBBPAY00002|");
    }

    /** "that hold, with each one, all that come before it in the order and take from a position from which it takes" */
    private static void setWithAllBeforeEachOne() {
        Bench b = Bench.open("with all before");
        // Without LARGE000 the others could settle together; but it comes before PAY00001, and takes where that takes.
        b.sayAs("PAY", "AAAA", "LARGE000", eur(4, "AAAA", "DDDD", 9), "OK WAIT|");
        b.sayAs("PAY", "AAAA", "PAY00001", eur(5, "AAAA", "BBBB", 1), "OK WAIT|");
        b.sayAs("PAY", "BBBB", "PAY00002", eur(5, "BBBB", "AAAA", 1), "OK WAIT|");
        b.say("RES", "CBNK", "", "OK|");
        // Behind it in the order it holds none of them back.
        b.say("PRI", "AAAA", "LARGE0005", "OK|");
        b.say("RES", "CBNK", "", "OK|SAAAAPAY00001|SBBBBPAY00002|");
        b.counts(5, 1);
        // One before it that takes from another position is not asked for.
        b.sayAs("PAY", "AAAA", "OTHER000", pay(1, "AAAA", "DDDD", "USD", 9), "OK WAIT|");
        b.say("CAN", "AAAA", "LARGE000", "OK|");
        b.sayAs("PAY", "AAAA", "PAY00003", eur(5, "AAAA", "BBBB", 1), "OK WAIT|");
        b.sayAs("PAY", "BBBB", "PAY00004", eur(5, "BBBB", "AAAA", 1), "OK WAIT|");
        b.say("RES", "CBNK", "", "OK|SAAAAPAY00003|SBBBBPAY00004|");
        b.counts(5, 1);
    }

    /** "there is a greatest one": what is left out is in no such set */
    private static void setWithoutMoreThanNeedsBe() {
        Bench b = Bench.open("no more than needs be");
        b.sayAs("PAY", "AAAA", "PAY00001", eur(5, "AAAA", "BBBB", 7), "OK WAIT|");
        b.sayAs("PAY", "BBBB", "PAY00002", eur(5, "BBBB", "AAAA", 8), "OK WAIT|");
        b.sayAs("PAY", "AAAA", "PAY00003", eur(5, "AAAA", "BBBB", 1), "OK WAIT|");
        b.sayAs("PAY", "AAAA", "PAY00004", eur(5, "AAAA", "BBBB", 1), "OK WAIT|");
        b.sayAs("PAY", "AAAA", "PAY00005", eur(5, "AAAA", "BBBB", 1), "OK WAIT|");
        b.sayAs("PAY", "CCCC", "PAY00006", eur(1, "CCCC", "DDDD", 1), "OK WAIT|");
        b.say("RES", "CBNK", "", "OK|SAAAAPAY00001|SBBBBPAY00002|SAAAAPAY00003|");
        b.counts(5, 3);
        b.pass(800, "BCCCCPAY00006|BAAAAPAY00004|BAAAAPAY00005|");
        // What CCCC can't give was to be for the last one of AAAA's two: the first one stays in.
        Bench gift = Bench.open("the last one goes first");
        gift.sayAs("PAY", "AAAA", "PAY00001", eur(1, "AAAA", "BBBB", 3), "OK WAIT|");
        gift.sayAs("PAY", "CCCC", "PAY00002", eur(2, "CCCC", "AAAA", 2), "OK WAIT|");
        gift.sayAs("PAY", "AAAA", "PAY00003", eur(3, "AAAA", "BBBB", 2), "OK WAIT|");
        gift.sayAs("PAY", "BBBB", "PAY00004", eur(4, "BBBB", "AAAA", 3), "OK WAIT|");
        gift.say("RES", "CBNK", "", "OK|SAAAAPAY00001|SBBBBPAY00004|");
        gift.counts(5, 2);
    }

    /** The same of one that could settle by itself, were none before it left out. */
    private static void setWithoutThoseBehindOneThatIsOut() {
        Bench b = Bench.open("behind one that is out");
        b.issue("EUR", "BBBB", 9);
        b.sayAs("PAY", "BBBB", "BOTH0000", "52" + Bench.leg("AAAA", "DDDD", "EUR", 1) + Bench.leg("BBBB", "DDDD", "EUR", 6), "OK CONF|");
        b.say("CNF", "AAAA", "BBBBBOTH0000", "OK WAIT|");
        // It follows by BBBB's EUR, the next one has nothing without it, and the last one follows that by CCCC's USD.
        b.sayAs("PAY", "BBBB", "PAY00001", eur(5, "BBBB", "CCCC", 1), "OK WAIT|");
        b.issue("USD", "CCCC", 9);
        b.sayAs("PAY", "CCCC", "PAY00002", "52" + Bench.leg("CCCC", "DDDD", "EUR", 1) + Bench.leg("CCCC", "DDDD", "USD", 1), "OK WAIT|");
        b.sayAs("PAY", "CCCC", "PAY00003", pay(5, "CCCC", "DDDD", "USD", 1), "OK WAIT|");
        b.say("RES", "CBNK", "", "OK|");
        b.counts(5, 4);
        b.say("CAN", "BBBB", "BOTH0000", "OK|SBBBBPAY00001|SCCCCPAY00002|SCCCCPAY00003|");
    }

    /** The same where each position is looked at from what it has: in one asset it is taken from, in another it waits. */
    private static void setOfSeveralAssets() {
        Bench b = Bench.open("several assets");
        b.issue("BND", "AAAA", 5);
        b.sayAs("PAY", "AAAA", "SELL0000", "52" + Bench.leg("AAAA", "BBBB", "BND", 5) + Bench.leg("AAAA", "BBBB", "EUR", 1), "OK WAIT|");
        b.sayAs("PAY", "BBBB", "PAY00001", eur(5, "BBBB", "AAAA", 1), "OK WAIT|");
        b.say("RES", "CBNK", "", "OK|SAAAASELL0000|SBBBBPAY00001|");
        b.holds(1, 2, 0);
        b.holds(2, 2, 5);
        // A second time: what was looked at before is not what is there now.
        b.sayAs("PAY", "AAAA", "SELL0001", "52" + Bench.leg("AAAA", "BBBB", "BND", 1) + Bench.leg("AAAA", "BBBB", "EUR", 1), "OK WAIT|");
        b.sayAs("PAY", "BBBB", "PAY00002", eur(5, "BBBB", "AAAA", 1), "OK WAIT|");
        b.say("RES", "CBNK", "", "OK|");
        b.sayAs("PAY", "BBBB", "BACK0000", pay(5, "BBBB", "AAAA", "BND", 1), "OK DONE|SBBBBBACK0000|");
        b.say("RES", "CBNK", "", "OK|SAAAASELL0001|SBBBBPAY00002|");
    }

    /** "all in it settle, at once (told in their order)" */
    private static void setAtOnce() {
        Bench b = Bench.open("at once");
        int[] priorities = {9, 3, 6, 3};
        for (int i = 0; i < 4; i++) {
            b.sayAs("PAY", ALL[i], "RING0000", eur(priorities[i], ALL[i], ALL[(i + 1) % 4], 8), "OK WAIT|");
        }
        b.pass(49, "");
        b.pass(1, "SBBBBRING0000|SDDDDRING0000|SCCCCRING0000|SAAAARING0000|");
        for (int i = 0; i < 4; i++) {
            b.holds(1 + i, 0, 0);
            b.say("STM", ALL[i], "", "OK|EUR 0 8 8 0 2|");
        }
    }

    /** "then as above": nothing is left that can settle, for what could behind the set is in the greatest one itself */
    private static void thenAsAbove() {
        Bench b = Bench.open("then");
        b.quietly("LIM", "AAAA", "CCCC" + Bench.amount(0));
        b.sayAs("PAY", "AAAA", "PAY00001", eur(5, "AAAA", "BBBB", 5), "OK WAIT|");
        b.sayAs("PAY", "BBBB", "PAY00002", eur(5, "BBBB", "AAAA", 5), "OK WAIT|");
        b.sayAs("PAY", "AAAA", "ROOM0000", eur(6, "AAAA", "CCCC", 1), "OK WAIT|");
        b.sayAs("PAY", "AAAA", "LAST0000", eur(7, "AAAA", "DDDD", 1), "OK WAIT|");
        b.say("RES", "CBNK", "", "OK|SAAAAPAY00001|SBBBBPAY00002|");
        b.counts(5, 2);
        b.say("UNL", "AAAA", "CCCC", "OK|");
        b.issue("EUR", "BBBB", 3);
        b.sayAs("PAY", "BBBB", "PAY00003", eur(5, "BBBB", "AAAA", 4), "OK WAIT|");
        b.sayAs("PAY", "CCCC", "PAY00004", eur(5, "CCCC", "BBBB", 1), "OK WAIT|");
        // CCCC pays by what it gets from AAAA, and AAAA by what it gets from BBBB: told in the order, not by what they need.
        b.say("RES", "CBNK", "", "OK|SBBBBPAY00003|SCCCCPAY00004|SAAAAROOM0000|SAAAALAST0000|");
        b.holds(1, 0, 2);
    }

    /** "A line of one that settled (also by its own PAY): S, its sender's code, its reference, nothing between." */
    private static void linesOfTheSettled() {
        Bench b = Bench.open("lines");
        b.issue("EUR", "AAAA", 3);
        b.sayAs("PAY", "AAAA", "00000000", eur(5, "AAAA", "BBBB", 1), "OK DONE|SAAAA00000000|");
        b.sayAs("PAY", "AAAA", "ZZZZZZZZ", eur(5, "AAAA", "BBBB", 1), "OK DONE|SAAAAZZZZZZZZ|");
        b.sayAs("PAY", "CBNK", "A0B1C2D3", eur(5, "AAAA", "BBBB", 1), "OK CONF|");
        b.say("CNF", "AAAA", "CBNKA0B1C2D3", "OK DONE|SCBNKA0B1C2D3|");
        b.sayAs("PAY", "AAAA", "0000000Z", eur(5, "AAAA", "BBBB", 1), "OK WAIT|");
        b.sayAs("PAY", "CBNK", "Z0000000", eur(5, "AAAA", "BBBB", 1), "OK CONF|");
        b.pass(800, "BAAAA0000000Z|BCBNKZ0000000|");
    }
}
