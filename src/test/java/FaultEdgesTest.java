/** The edges of the document's faults and references: a method for each sentence, which stands above it. */
public final class FaultEdgesTest {
    private static final String ONE = Bench.amount(1);
    private static final String NIL = Bench.amount(0);
    private static final String LEG = Bench.leg("AAAA", "BBBB", "EUR", 1);

    public static void main(String[] args) {
        noMessageComesFirst();
        thenTheSender();
        thenTheBank();
        thenTheCodes();
        fromTheLeft();
        thenTheReference();
        thenThePhase();
        thenWhatCanNotBe();
        thenTheFloor();
        noSuchInstruction();
        refusedChangesNothing();
        everyKindUsesItsReference();
        refusedUsesNoReference();
        aReferenceIsOfItsSender();
        aReferenceIsOfItsDay();
        allItsBytes();
        whateverThePhase();
        whateverTheRoom();
        againDoesNothing();
        Bench.finish();
    }

    /** "01 it is no message", whatever else is so */
    private static void noMessageComesFirst() {
        Bench b = Bench.ready("01");
        b.sayAs("LIM", "AAAA", "USED0000", "BBBB" + ONE, "OK|");
        b.say("STM", "ZZZZ", "0", "NO 01|");
        b.say("RES", "AAAA", "0", "NO 01|");
        b.say("UNL", "AAAA", "ZZZZ0", "NO 01|");
        b.say("PLG", "AAAA", "ZZZ" + "00000000000000A", "NO 01|");
        b.sayAs("UNL", "AAAA", "USED0000", "BBB", "NO 01|");
        b.say("PAY", "AAAA", "01" + LEG, "NO 01|");
        b.say("LIM", "AAAA", "AAAA" + "00000000000000Z", "NO 01|");
        b.say("RED", "CBNK", "EURAAAA" + ONE + "0", "NO 01|");
        b.say("CAN", "AAAA", "NOTHING", "NO 01|");
        // A very same message whose check digits are wrong is none either.
        String text = Bench.signed("LIMAAAAUSED0000BBBB" + ONE);
        b.is("again", b.ask(text), "OK AGAIN\n");
        int check = (Integer.parseInt(text.substring(34)) + 1) % 97;
        b.is("check digits", b.ask(text.substring(0, 34) + String.format("%02d", check)), "NO 01\n");
    }

    /** "02 no participant of the sender's code" */
    private static void thenTheSender() {
        Bench b = Bench.ready("02");
        b.say("RES", "ZZZZ", "", "NO 02|");
        b.say("NEW", "ZZZZ", "AAAA", "NO 02|");
        b.say("UNL", "ZZZZ", "YYYY", "NO 02|");
        b.say("PLG", "ZZZZ", "XXX" + ONE, "NO 02|");
        b.say("PAY", "ZZZZ", "11" + LEG, "NO 02|");
        b.say("LIM", "ZZZZ", "ZZZZ" + ONE, "NO 02|");
        b.say("CAN", "ZZZZ", "NOTHING0", "NO 02|");
        b.say("STM", "ZZZZ", "", "NO 02|");
        // An asset's code is none of a participant.
        b.say("STM", "EUR0", "", "NO 02|");
        b.say("STM", "0EUR", "", "NO 02|");
    }

    /** "03 of the bank alone" */
    private static void thenTheBank() {
        Bench b = Bench.ready("03");
        b.sayAs("LIM", "AAAA", "USED0000", "BBBB" + ONE, "OK|");
        b.say("NEW", "AAAA", "EEEE", "NO 03|");
        b.say("AST", "AAAA", "GBPC" + NIL + "00", "NO 03|");
        b.say("PRC", "AAAA", "BND" + ONE + "00", "NO 03|");
        b.say("ISS", "AAAA", "EURAAAA" + ONE, "NO 03|");
        b.say("RED", "AAAA", "EURAAAA" + ONE, "NO 03|");
        b.say("RES", "AAAA", "", "NO 03|");
        b.say("PRC", "AAAA", "XXX" + ONE + "00", "NO 03|");
        b.say("ISS", "AAAA", "EURXXXX" + ONE, "NO 03|");
        b.sayAs("NEW", "AAAA", "USED0000", "EEEE", "NO 03|");
        b.say("NEW", "AAAA", "BBBB", "NO 03|");
        // All others are of whom they may.
        b.say("STM", "AAAA", "", "OK|");
        b.say("UNL", "AAAA", "BBBB", "OK|");
        b.say("UNP", "AAAA", "BND" + ONE, "NO 08|");
        b.say("CAN", "AAAA", "NOTHING0", "NO 11|");
        b.say("PRI", "AAAA", "NOTHING01", "NO 11|");
        b.counts(3, 5);
        b.counts(4, 3);
    }

    /** "04 no participant, 05 no asset, of a code in it" */
    private static void thenTheCodes() {
        Bench b = Bench.ready("04 and 05");
        b.sayAs("LIM", "AAAA", "USED0000", "BBBB" + ONE, "OK|");
        b.sayAs("AST", "CBNK", "USED0000", "GBPC" + NIL + "00", "OK|");
        b.sayAs("LIM", "AAAA", "USED0000", "XXXX" + ONE, "NO 04|");
        b.sayAs("PRC", "CBNK", "USED0000", "XXX" + ONE + "00", "NO 05|");
        // Ahead of the phase, which is EARLY.
        b.say("ISS", "CBNK", "XXXAAAA" + ONE, "NO 05|");
        b.say("RED", "CBNK", "EURXXXX" + ONE, "NO 04|");
        b.say("CNF", "AAAA", "XXXXNOTHING0", "NO 04|");
        b.say("PAY", "AAAA", "11" + Bench.leg("AAAA", "BBBB", "XXX", 1), "NO 05|");
        // Ahead of what can't be.
        b.say("PAY", "AAAA", "11" + Bench.leg("CBNK", "XXXX", "EUR", 0), "NO 04|");
        b.say("PLG", "CBNK", "XXX" + NIL, "NO 05|");
        b.say("LIM", "CBNK", "XXXX" + NIL, "NO 04|");
        // A code to be made is none that must be there.
        b.say("NEW", "CBNK", "XXXX", "OK|");
        b.say("AST", "CBNK", "XXXC" + NIL + "00", "OK|");
    }

    /** "(the first, from the left, that there is not, tells which)" */
    private static void fromTheLeft() {
        Bench b = Bench.ready("from the left");
        b.say("ISS", "CBNK", "XXXXXXX" + ONE, "NO 05|");
        b.say("RED", "CBNK", "XXXXXXX" + ONE, "NO 05|");
        b.say("ISS", "CBNK", "EURXXXX" + ONE, "NO 04|");
        String[] codes = {"AAAA", "BBBB", "EUR"};
        // In each of four legs each code but those before it.
        for (int leg = 0; leg < 4; leg++) {
            for (int code = 0; code < 3; code++) {
                StringBuilder legs = new StringBuilder();
                for (int i = 0; i < 12; i++) {
                    boolean there = i < leg * 3 + code;
                    legs.append(there ? codes[i % 3] : i % 3 == 2 ? "XXX" : "XXXX").append(i % 3 == 2 ? ONE : "");
                }
                b.say("PAY", "AAAA", "14" + legs, code == 2 ? "NO 05|" : "NO 04|");
            }
        }
        b.say("PAY", "AAAA", "14" + LEG.repeat(4), "NO 07|");
    }

    /** "06 the sender has sent another message of that reference today (see below; not for RES and STM)" */
    private static void thenTheReference() {
        Bench b = Bench.ready("06");
        b.sayAs("NEW", "CBNK", "USED0000", "EEEE", "OK|");
        b.sayAs("LIM", "AAAA", "USED0000", "BBBB" + ONE, "OK|");
        // Ahead of the phase.
        b.sayAs("ISS", "CBNK", "USED0000", "EURAAAA" + ONE, "NO 06|");
        b.sayAs("PAY", "AAAA", "USED0000", "11" + LEG, "NO 06|");
        b.sayAs("CNF", "AAAA", "USED0000", "BBBBNOTHING0", "NO 06|");
        // Ahead of what can't be, of floors, of no instruction.
        b.sayAs("NEW", "CBNK", "USED0000", "CBNK", "NO 06|");
        b.sayAs("PLG", "AAAA", "USED0000", "BND" + ONE, "NO 06|");
        b.sayAs("CAN", "AAAA", "USED0000", "NOTHING0", "NO 06|");
        b.sayAs("PRI", "AAAA", "USED0000", "NOTHING01", "NO 06|");
        b.sayAs("UNL", "AAAA", "USED0000", "BBBB", "NO 06|");
        b.sayAs("UNP", "AAAA", "USED0000", "BND" + ONE, "NO 06|");
        b.sayAs("AST", "CBNK", "USED0000", "GBPC" + NIL + "00", "NO 06|");
        b.sayAs("PRC", "CBNK", "USED0000", "BND" + ONE + "00", "NO 06|");
        b.sayAs("STM", "AAAA", "USED0000", "", "OK|");
        b.sayAs("STM", "CBNK", "USED0000", "", "OK|");
        b.sayAs("RES", "CBNK", "USED0000", "", "NO 07|");
        b.tick(100);
        b.sayAs("RES", "CBNK", "USED0000", "", "OK|");
        b.sayAs("RED", "CBNK", "USED0000", "EURAAAA" + ONE, "NO 06|");
    }

    /** "07 the phase is not one for it", ahead of 08, 09 and 11 */
    private static void thenThePhase() {
        Bench b = Bench.ready("07");
        b.say("ISS", "CBNK", "EURCBNK" + NIL, "NO 07|");
        b.say("RED", "CBNK", "EURAAAA" + ONE, "NO 07|");
        b.say("PAY", "AAAA", "11" + Bench.leg("CBNK", "CBNK", "EUR", 0), "NO 07|");
        b.say("CNF", "AAAA", "BBBBNOTHING0", "NO 07|");
        b.tick(900);
        b.say("CNF", "AAAA", "BBBBNOTHING0", "NO 07|");
        b.say("CAN", "AAAA", "NOTHING0", "NO 07|");
        b.say("PRI", "AAAA", "NOTHING01", "NO 07|");
        b.say("RED", "CBNK", "EURAAAA" + ONE, "NO 07|");
    }

    /** "08 what it says can't be", ahead of 09, 10 and 12 */
    private static void thenWhatCanNotBe() {
        Bench b = Bench.open("08");
        long most = 999999999999999L;
        b.say("PLG", "AAAA", "EUR" + ONE, "NO 08|");
        b.say("PLG", "CBNK", "BND" + Bench.amount(most), "NO 08|");
        b.issue("BND", "AAAA", 10);
        b.quietly("PLG", "AAAA", "BND" + Bench.amount(10));
        b.quietly("PAY", "AAAA", "11" + Bench.leg("AAAA", "BBBB", "EUR", 900));
        b.say("UNP", "AAAA", "BND" + Bench.amount(11), "NO 08|");
        b.say("UNP", "AAAA", "BND" + Bench.amount(10), "NO 09|");
        b.say("PRC", "CBNK", "EUR" + Bench.amount(most) + "00", "NO 08|");
        b.say("RED", "CBNK", "EURCBNK" + Bench.amount(most), "NO 08|");
        b.say("LIM", "AAAA", "CBNK" + NIL, "NO 08|");
        b.say("LIM", "AAAA", "BBBB" + Bench.amount(899), "NO 09|");
        Bench full = new Bench("08 ahead of 12");
        for (int i = 0; i < 64; i++) {
            full.quietly("AST", "CBNK", "X" + (10 + i) + "C" + NIL + "00");
        }
        full.say("AST", "CBNK", "X10S" + ONE + "01", "NO 08|");
        full.say("AST", "CBNK", "Y10S" + ONE + "01", "NO 12|");
    }

    /** "09 a position would fall below its floor", ahead of 10 */
    private static void thenTheFloor() {
        Bench b = Bench.open("09");
        b.quietly("PRC", "CBNK", "BND" + Bench.amount(999999999999999L) + "00");
        b.issue("BND", "AAAA", 5000);
        b.say("PLG", "AAAA", "BND" + Bench.amount(5001), "NO 09|");
        b.say("PLG", "AAAA", "BND" + Bench.amount(5000), "NO 10|");
        b.say("PLG", "AAAA", "BND" + Bench.amount(4000), "OK|");
        b.say("PLG", "AAAA", "BND" + Bench.amount(1001), "NO 09|");
        b.say("PLG", "AAAA", "BND" + Bench.amount(1000), "NO 10|");
    }

    /** "but 11 if there is no such instruction, or it is over", ahead of 08 */
    private static void noSuchInstruction() {
        Bench b = Bench.open("11");
        b.say("CNF", "DDDD", "AAAANOTHING0", "NO 11|");
        b.say("CNF", "AAAA", "AAAANOTHING0", "NO 11|");
        b.say("CNF", "CBNK", "CBNKNOTHING0", "NO 11|");
        b.sayAs("PAY", "AAAA", "PAY00001", "11" + LEG, "OK WAIT|");
        b.say("CNF", "DDDD", "AAAAPAY00001", "NO 08|");
        b.say("CNF", "AAAA", "AAAAPAY00001", "NO 08|");
        b.say("CNF", "AAAA", "BBBBPAY00001", "NO 11|");
        b.say("CAN", "AAAA", "PAY00001", "OK|");
        b.say("CNF", "DDDD", "AAAAPAY00001", "NO 11|");
        b.say("CNF", "AAAA", "AAAAPAY00001", "NO 11|");
    }

    /** "A call, or a message, that is refused changes nothing but what is said." */
    private static void refusedChangesNothing() {
        String[] refused = {"STMZZZZ ", "NEWAAAA EEEE", "LIMAAAA XXXX" + ONE, "PRCCBNK XXX" + ONE + "00", "NEWCBNK CBNK",
            "ASTCBNK EURS" + ONE + "00", "PRCCBNK USD" + ONE + "00", "ISSCBNK EURCBNK" + ONE, "ISSCBNK EURAAAA" + NIL,
            "REDCBNK EURAAAA" + Bench.amount(11), "REDCBNK BNDBBBB" + Bench.amount(6), "REDCBNK EURCBNK" + ONE,
            "PAYAAAA 12" + LEG + Bench.leg("AAAA", "CBNK", "EUR", 1), "PAYAAAA 12" + LEG + Bench.leg("AAAA", "AAAA", "EUR", 1),
            "PAYAAAA 12" + LEG + Bench.leg("AAAA", "BBBB", "EUR", 0), "CNFCCCC AAAAASKED000", "CNFBBBB AAAANOTHING0",
            "CANBBBB WAITS000", "PRIBBBB WAITS0001", "LIMAAAA AAAA" + ONE, "LIMAAAA CBNK" + ONE, "LIMCBNK AAAA" + ONE,
            "LIMAAAA CCCC" + ONE, "UNLAAAA DDDD", "PLGBBBB BND" + Bench.amount(6), "PLGBBBB USD" + ONE, "PLGBBBB BND" + NIL,
            "UNPBBBB BND" + Bench.amount(6), "UNPBBBB EUR" + ONE, "UNPBBBB BND" + NIL, "PAYAAAA 01" + LEG,
            "LIMAAAAWAITS000CCCC" + Bench.amount(9)};
        for (int i = 0; i < refused.length; i += 8) {
            Bench b = busy();
            String before = b.state();
            for (int k = i; k < i + 8 && k < refused.length; k++) {
                String text = Bench.signed(refused[k].replace(" ", b.fresh()));
                b.is("refused: " + text, b.ask(text).substring(0, 3), "NO ");
                b.is("behind " + text, b.state(), before);
            }
            stillAsItWas(b);
        }
        Bench calls = busy();
        calls.feed(1, 2, 3, 4, 5);
        String before = calls.state();
        calls.is("send", calls.send(0) + calls.send(21) + calls.send(-1), 0);
        calls.is("tick", calls.tick(0) + calls.tick(1001) + calls.tick(-1), 0);
        calls.is("start", calls.start(), 0);
        calls.is("charge", calls.charge(-1) || calls.charge(10000), false);
        calls.is("behind the calls", calls.state(), before);
        calls.is("what was not fetched", calls.answer(), "OK CONF\n");
        calls.send(1);
        stillAsItWas(calls);
    }

    /** AAAA has 10 EUR, with 1 more paid away, and BBBB 10 BND of which 5 are pledged; one waits, one is to be confirmed. */
    private static Bench busy() {
        Bench b = Bench.open("refused");
        b.issue("EUR", "AAAA", 13);
        b.issue("BND", "BBBB", 10);
        b.quietly("PLG", "BBBB", "BND" + Bench.amount(5));
        b.quietly("PAY", "AAAA", "11" + Bench.leg("AAAA", "CCCC", "EUR", 3));
        b.quietly("LIM", "AAAA", "BBBB" + Bench.amount(7));
        b.sayAs("PAY", "AAAA", "WAITS000", "51" + Bench.leg("AAAA", "BBBB", "EUR", 8), "OK WAIT|");
        b.post(Bench.signed("PAYAAAAASKED00051" + Bench.leg("BBBB", "AAAA", "EUR", 450)));
        return b;
    }

    /** What neither count nor position tells. */
    private static void stillAsItWas(Bench b) {
        b.say("STM", "AAAA", "", "OK|EUR 0 3 13 10 2|");
        b.say("LIM", "AAAA", "CCCC" + Bench.amount(3), "OK|");
        b.say("UNP", "BBBB", "BND" + Bench.amount(6), "NO 08|");
        b.say("LIM", "AAAA", "BBBB" + Bench.amount(8), "OK|SAAAAWAITS000|");
        b.say("CNF", "BBBB", "AAAAASKED000", "OK DONE|SAAAAASKED000|");
        b.say("RED", "CBNK", "EURBBBB" + Bench.amount(9), "NO 09|");
        b.say("RED", "CBNK", "EURBBBB" + Bench.amount(8), "OK|");
        b.say("NEW", "CBNK", "EEEE", "OK|");
    }

    /** "of NEW, AST, PRC, ISS, RED, PAY, CNF, CAN, PRI, LIM, UNL, PLG, UNP that were OK" */
    private static void everyKindUsesItsReference() {
        String[] kinds = {"NEWCBNK EEEE", "ASTCBNK GBPC" + NIL + "00", "PRCCBNK BND" + ONE + "00", "ISSCBNK EURAAAA" + ONE,
            "REDCBNK USDAAAA" + ONE, "PAYAAAA 11" + LEG, "CNFBBBB AAAAASKED000", "CANAAAA WAITS000", "PRIAAAA WAITS0009",
            "LIMAAAA CCCC" + ONE, "UNLAAAA DDDD", "PLGAAAA BND" + ONE, "UNPAAAA BND" + ONE};
        for (String kind : kinds) {
            Bench b = withEverything(kind);
            String sender = kind.substring(3, 7);
            String text = Bench.signed(kind.replace(" ", "USED0000"));
            b.is(text, b.ask(text).substring(0, 2), "OK");
            String before = b.state();
            b.is("again " + text, b.ask(text), "OK AGAIN\n");
            b.sayAs("LIM", sender, "USED0000", "BBBB" + Bench.amount(77), "NO 06|");
            b.is("as before " + text, b.state(), before);
            b.sayAs("STM", sender, "USED0000", "", b.ask(Bench.signed("STM" + sender + "USED0001")).replace('\n', '|'));
        }
        // RES and STM use none, and are never sent again.
        Bench b = withEverything("RES and STM");
        for (int i = 0; i < 2; i++) {
            b.sayAs("RES", "CBNK", "USED0000", "", "OK|");
            b.sayAs("STM", "DDDD", "USED0000", "", "OK|");
        }
        b.sayAs("NEW", "CBNK", "USED0000", "EEEE", "OK|");
        b.sayAs("LIM", "DDDD", "USED0000", "AAAA" + ONE, "OK|");
    }

    private static Bench withEverything(String name) {
        Bench b = Bench.open(name);
        b.issue("BND", "AAAA", 10);
        b.issue("USD", "AAAA", 10);
        b.quietly("PLG", "AAAA", "BND" + Bench.amount(5));
        b.quietly("LIM", "AAAA", "DDDD" + ONE);
        b.sayAs("PAY", "AAAA", "ASKED000", "11" + Bench.leg("BBBB", "AAAA", "EUR", 1), "OK CONF|");
        b.sayAs("PAY", "AAAA", "WAITS000", "11" + Bench.leg("AAAA", "CCCC", "EUR", 999), "OK WAIT|");
        return b;
    }

    /** ".. that were OK": a message that was refused leaves its reference free */
    private static void refusedUsesNoReference() {
        Bench b = Bench.open("refused uses none");
        b.sayAs("ISS", "AAAA", "FREE0000", "EURAAAA" + ONE, "NO 03|");
        b.sayAs("LIM", "AAAA", "FREE0000", "XXXX" + ONE, "NO 04|");
        b.sayAs("PLG", "AAAA", "FREE0000", "XXX" + ONE, "NO 05|");
        b.sayAs("UNL", "AAAA", "FREE0000", "BBBB", "NO 08|");
        b.sayAs("PLG", "AAAA", "FREE0000", "BND" + ONE, "NO 09|");
        b.sayAs("CAN", "AAAA", "FREE0000", "NOTHING0", "NO 11|");
        b.sayAs("LIM", "AAAA", "FREE0000", "BBBB" + ONE, "OK|");
        b.sayAs("UNL", "AAAA", "FREE0000", "BBBB", "NO 06|");
        Bench cut = Bench.open("cut uses none");
        cut.charge(0);
        cut.is("the power went", cut.post(Bench.signed("LIMAAAAFREE0000BBBB" + ONE)), 2);
        cut.start();
        cut.sayAs("LIM", "AAAA", "FREE0000", "BBBB" + Bench.amount(2), "OK|");
    }

    /** "A REFERENCE names a message of a sender for the day" */
    private static void aReferenceIsOfItsSender() {
        Bench b = Bench.open("of a sender");
        b.sayAs("PAY", "AAAA", "SAME0000", "11" + LEG, "OK WAIT|");
        b.sayAs("PAY", "BBBB", "SAME0000", "11" + Bench.leg("BBBB", "AAAA", "EUR", 2), "OK WAIT|");
        b.sayAs("PAY", "CBNK", "SAME0000", "11" + LEG, "OK CONF|");
        b.sayAs("PAY", "BBBB", "SAME0000", "11" + Bench.leg("BBBB", "AAAA", "EUR", 3), "NO 06|");
        b.say("CAN", "BBBB", "SAME0000", "OK|");
        b.say("PRI", "AAAA", "SAME00009", "OK|");
        b.say("CNF", "AAAA", "CBNKSAME0000", "OK WAIT|");
        b.say("ISS", "CBNK", "EURAAAA" + Bench.amount(2), "OK|SCBNKSAME0000|SAAAASAME0000|");
    }

    /** "At 0 a day begins: references are free again" */
    private static void aReferenceIsOfItsDay() {
        Bench b = Bench.at("of a day", 899);
        b.sayAs("LIM", "AAAA", "SAME0000", "BBBB" + ONE, "OK|");
        b.tick(100);
        b.sayAs("LIM", "AAAA", "SAME0000", "BBBB" + ONE, "OK AGAIN|");
        b.sayAs("LIM", "AAAA", "SAME0000", "BBBB" + NIL, "NO 06|");
        b.tick(1);
        b.sayAs("LIM", "AAAA", "SAME0000", "BBBB" + NIL, "OK|");
        b.sayAs("LIM", "AAAA", "SAME0000", "BBBB" + ONE, "NO 06|");
        b.tick(1000);
        b.sayAs("LIM", "AAAA", "SAME0000", "BBBB" + NIL, "OK|");
    }

    /** "The very same message (all its bytes) sent again that day is answered OK and AGAIN" */
    private static void allItsBytes() {
        String body = Bench.signed("LIMAAAASAME0000BBBB000000000000500").substring(0, 34);
        Bench b = Bench.open("all its bytes");
        b.is("first", b.ask(Bench.signed(body)), "OK\n");
        for (int place = 19; place < 34; place++) {
            char other = body.charAt(place) == '0' ? '1' : '0';
            b.is("another at " + place, b.ask(Bench.signed(body.substring(0, place) + other + body.substring(place + 1))), "NO 06\n");
        }
        b.is("another one's", b.ask(Bench.signed(body.replace("BBBB", "CCCC"))), "NO 06\n");
        b.is("another kind", b.ask(Bench.signed("UNLAAAASAME0000BBBB")), "NO 06\n");
        b.is("the same", b.ask(Bench.signed(body)), "OK AGAIN\n");
        // The same but for check digits of 97 more, which leave 1, too.
        for (int i = 0; i < 400; i++) {
            String text = Bench.signed(String.format("LIMAAAAX%07dBBBB", i) + ONE);
            int check = Integer.parseInt(text.substring(34));
            if (check <= 2) {
                b.is("first", b.ask(text), "OK\n");
                b.is("97 more", b.ask(text.substring(0, 34) + (check + 97)), "NO 06\n");
                b.is("the same", b.ask(text), "OK AGAIN\n");
                return;
            }
        }
        b.is("found such digits", false, true);
    }

    /** "(in the place of 06, whatever the phase and the room)": the phase */
    private static void whateverThePhase() {
        String[] sent = {"ISSCBNKSENT0001EURAAAA" + Bench.amount(5), "REDCBNKSENT0002EURAAAA" + ONE,
            "PAYAAAASENT000391" + LEG, "PAYAAAASENT000411" + Bench.leg("AAAA", "BBBB", "USD", 1), "PAYAAAASENT000511" + LEG,
            "CNFBBBBSENT0006AAAAASKED000", "CANAAAASENT0007SENT0004", "PRIAAAASENT0008ASKED0001"};
        Bench b = Bench.open("whatever the phase");
        b.sayAs("PAY", "AAAA", "ASKED000", "12" + Bench.leg("BBBB", "AAAA", "BND", 1) + Bench.leg("CCCC", "AAAA", "EUR", 1), "OK CONF|");
        for (String body : sent) {
            b.is(body, b.ask(Bench.signed(body)).substring(0, 2), "OK");
        }
        for (int at : new int[] {700, 800, 900, 999}) {
            b.tick(at - b.count(2));
            for (String body : sent) {
                b.is(body + " at " + at, b.ask(Bench.signed(body)), "OK AGAIN\n");
            }
        }
        b.tick(1);
        b.is("on another day it is not the same", b.ask(Bench.signed(sent[0])), "NO 07\n");
    }

    /** "(in the place of 06, whatever the phase and the room)": the room */
    private static void whateverTheRoom() {
        Bench b = new Bench("whatever the room");
        for (int i = 10; i < 74; i++) {
            b.post(Bench.signed("ASTCBNKSENT00" + i + "X" + i + "C" + NIL + "00"));
        }
        b.counts(4, 64);
        b.sayAs("AST", "CBNK", "SENT0074", "X74C" + NIL + "00", "NO 12|");
        b.sayAs("AST", "CBNK", "SENT0073", "X73C" + NIL + "00", "OK AGAIN|");
        b.sayAs("AST", "CBNK", "SENT0073", "X74C" + NIL + "00", "NO 06|");
        b.sayAs("AST", "CBNK", "SENT0074", "X73C" + NIL + "00", "NO 08|");
        b.counts(4, 64);
    }

    /** "and does nothing" */
    private static void againDoesNothing() {
        Bench b = Bench.open("does nothing");
        b.sayAs("ISS", "CBNK", "SAME0000", "EURAAAA" + Bench.amount(5), "OK|");
        String before = b.state();
        b.charge(0);
        b.sayAs("ISS", "CBNK", "SAME0000", "EURAAAA" + Bench.amount(5), "OK AGAIN|");
        b.is("nothing changed, and no block was written", b.state(), before);
        b.charge(9999);
        b.sayAs("PAY", "AAAA", "SAME0000", "11" + LEG, "OK DONE|SAAAASAME0000|");
        b.sayAs("PAY", "AAAA", "SAME0000", "11" + LEG, "OK AGAIN|");
        b.holds(2, 0, 1);
        // PRI of the priority that it has would put it behind; sent again it does not.
        b.sayAs("PAY", "CCCC", "FIRST000", "11" + Bench.leg("CCCC", "AAAA", "EUR", 1), "OK WAIT|");
        b.sayAs("PAY", "CCCC", "LATER000", "11" + Bench.leg("CCCC", "AAAA", "EUR", 1), "OK WAIT|");
        b.sayAs("PRI", "CCCC", "SAME0001", "FIRST0001", "OK|");
        b.sayAs("PRI", "CCCC", "SAME0002", "LATER0001", "OK|");
        b.sayAs("PRI", "CCCC", "SAME0001", "FIRST0001", "OK AGAIN|");
        b.say("ISS", "CBNK", "EURCCCC" + Bench.amount(2), "OK|SCCCCFIRST000|SCCCCLATER000|");
    }
}
