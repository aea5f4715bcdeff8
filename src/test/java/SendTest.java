/** Promise 3: send: what is a message, the faults and their order, references. */
public final class SendTest {
    public static void main(String[] args) {
        refused();
        theFirstBytesOfTheTape();
        checkDigits();
        bytesAndLengths();
        fieldsThatAreNone();
        faultsOneBehindTheOther();
        whoIsMissing();
        references();
        whatCanNotBe();
        assetsAreSixtyFour();
        Bench.finish();
    }

    private static void refused() {
        Bench b = new Bench("refused");
        b.is("nothing on the tape", b.send(1), 0);
        b.feedText(Bench.signed("NEWCBNK00000001AAAA"));
        for (int n : new int[] {0, -1, 41, Integer.MIN_VALUE, Integer.MAX_VALUE}) {
            b.is("send(" + n + ")", b.send(n), 0);
        }
        b.counts(7, 40);
        b.charge(0);
        b.is("the power went", b.send(21), 2);
        b.counts(7, 0);
        b.feedText(Bench.signed("NEWCBNK00000001AAAA"));
        b.is("down", b.send(21), 0);
        b.counts(7, 40);
        b.start();
        b.is("the tape stayed", b.send(21), 1);
        b.is("answer", b.answer(), "OK\n");
        b.counts(7, 0);
    }

    private static void theFirstBytesOfTheTape() {
        Bench b = new Bench("first bytes");
        b.feedText(Bench.signed("NEWCBNK00000001AAAA") + "REST THAT IS LOST 123456789");
        b.is("send", b.send(21), 1);
        b.is("answer", b.answer(), "OK\n");
        b.counts(7, 0);
        b.feedText(Bench.signed("NEWCBNK00000002BBBB"));
        b.is("one byte less", b.send(20), 1);
        b.is("answer", b.answer(), "NO 01\n");
        b.counts(7, 0);
    }

    private static void checkDigits() {
        Bench b = new Bench("check digits");
        String right = Bench.signed("NEWCBNK00000001AAAA");
        int check = Integer.parseInt(right.substring(19));
        for (int wrong : new int[] {(check + 1) % 97, (check + 50) % 97}) {
            b.is("wrong digits", b.ask(right.substring(0, 19) + String.format("%02d", wrong)), "NO 01\n");
        }
        b.is("two changed places", b.ask(Bench.signed("NEWCBNK00000010AAAA").replace("10AAAA", "01AAAA")), "NO 01\n");
        b.is("right", b.ask(right), "OK\n");
        // Whatever leaves 1 will do, also 97 more or less than what one would write.
        boolean tried = false;
        for (int i = 0; i < 200 && !tried; i++) {
            String other = Bench.signed(String.format("STMCBNK%08d", i));
            int digits = Integer.parseInt(other.substring(15));
            if (digits <= 2) {
                tried = true;
                b.is("97 more", b.ask(other.substring(0, 15) + (digits + 97)), "OK\n");
            }
        }
        b.is("tried", tried, true);
        letterForADigit(b);
    }

    /** A row that leaves 1 only because a letter stands for two digits at its end. */
    private static void letterForADigit(Bench b) {
        for (int i = 0; i < 1000; i++) {
            String text = String.format("STMCBNK%08d", i) + "1A";
            if (Bench.rest(text) == 1) {
                b.is("a letter as check digit", b.ask(text), "NO 01\n");
                return;
            }
        }
        b.is("found one", false, true);
    }

    private static void bytesAndLengths() {
        Bench b = new Bench("bytes");
        b.is("lower case", b.ask("stmCBNK0000000112"), "NO 01\n");
        b.is("blank", b.ask("STMCBNK 000000112"), "NO 01\n");
        b.is("above 127", b.ask("STMCBNK\u00c1000000112"), "NO 01\n");
        b.is("no such kind", b.ask(Bench.signed("STNCBNK00000001")), "NO 01\n");
        b.is("one letter off", b.ask(Bench.signed("EWACBNK00000001")), "NO 01\n");
        b.is("one byte", b.ask("1"), "NO 01\n");
        b.is("two bytes that leave 1", b.ask("01"), "NO 01\n");
        b.is("kind alone", b.ask(Bench.signed("STM")), "NO 01\n");
        String[] bodies = {"NEWCBNK00000001AAAA", "ASTCBNK00000001EURC00000000000000000", "STMCBNK00000001", "RESCBNK00000001",
            "PRCCBNK00000001EUR00000000000000000", "ISSCBNK00000001EURAAAA000000000000001", "UNLAAAA00000001BBBB",
            "PAYAAAA0000000111AAAABBBBEUR000000000000001", "CNFAAAA00000001BBBB00000001", "CANAAAA0000000100000001",
            "PRIAAAA00000001000000011", "LIMAAAA00000001BBBB000000000000001", "PLGAAAA00000001EUR000000000000001"};
        for (String body : bodies) {
            b.is("too long: " + body, b.ask(Bench.signed(body + "0")), "NO 01\n");
            b.is("too short: " + body, b.ask(Bench.signed(body.substring(0, body.length() - 1))), "NO 01\n");
        }
        b.counts(3, 1);
        b.counts(4, 0);
    }

    private static void fieldsThatAreNone() {
        Bench b = Bench.open("fields");
        b.say("AST", "CBNK", "XXXT" + Bench.amount(0) + "00", "NO 01|");
        b.say("AST", "CBNK", "XXXC" + Bench.amount(1) + "00", "NO 01|");
        b.say("AST", "CBNK", "XXXC" + Bench.amount(0) + "01", "NO 01|");
        b.say("AST", "CBNK", "XXXS" + Bench.amount(0) + "0A", "NO 01|");
        b.say("AST", "CBNK", "XXXS00000000000000A00", "NO 01|");
        b.say("AST", "CBNK", "XXXS" + Bench.amount(0) + "00", "OK|");
        b.say("AST", "CBNK", "001S" + Bench.amount(999999999999999L) + "99", "OK|");
        b.say("PRC", "CBNK", "XXX" + Bench.amount(5) + "A0", "NO 01|");
        b.say("PAY", "AAAA", "01" + Bench.leg("AAAA", "BBBB", "EUR", 1), "NO 01|");
        b.say("PAY", "AAAA", "A1" + Bench.leg("AAAA", "BBBB", "EUR", 1), "NO 01|");
        b.say("PAY", "AAAA", "10", "NO 01|");
        b.say("PAY", "AAAA", "12" + Bench.leg("AAAA", "BBBB", "EUR", 1), "NO 01|");
        String four = Bench.leg("AAAA", "BBBB", "EUR", 1).repeat(4);
        b.say("PAY", "AAAA", "15" + four + Bench.leg("AAAA", "BBBB", "EUR", 1), "NO 01|");
        b.say("PAY", "AAAA", "13" + four, "NO 01|");
        b.say("PAY", "AAAA", "1A" + four, "NO 01|");
        b.say("PAY", "AAAA", "14" + four, "OK WAIT|");
        b.say("PAY", "AAAA", "11AAAABBBBEUR00000000000000A", "NO 01|");
        b.say("PRI", "AAAA", "000000010", "NO 01|");
        b.say("PRI", "AAAA", "00000001A", "NO 01|");
        b.say("LIM", "AAAA", "BBBBA00000000000000", "NO 01|");
    }

    /** One message, mended step by step. */
    private static void faultsOneBehindTheOther() {
        Bench b = new Bench("order of faults");
        b.say("ISS", "AAAA", "EURBBBB" + Bench.amount(0) + "X", "NO 01|");
        b.say("ISS", "AAAA", "EURBBBB" + Bench.amount(0), "NO 02|");
        b.sayAs("NEW", "CBNK", "USED0000", "AAAA", "OK|");
        b.sayAs("ISS", "AAAA", "USED0000", "EURBBBB" + Bench.amount(0), "NO 03|");
        b.sayAs("ISS", "CBNK", "USED0000", "EURBBBB" + Bench.amount(0), "NO 05|");
        b.say("AST", "CBNK", "EURC" + Bench.amount(0) + "00", "OK|");
        b.sayAs("ISS", "CBNK", "USED0000", "EURBBBB" + Bench.amount(0), "NO 04|");
        b.say("NEW", "CBNK", "BBBB", "OK|");
        b.sayAs("ISS", "CBNK", "USED0000", "EURBBBB" + Bench.amount(0), "NO 06|");
        b.say("ISS", "CBNK", "EURBBBB" + Bench.amount(0), "NO 07|");
        b.tick(100);
        b.say("ISS", "CBNK", "EURBBBB" + Bench.amount(0), "NO 08|");
        b.say("ISS", "CBNK", "EURBBBB" + Bench.amount(1), "OK|");
        b.say("RED", "CBNK", "EURBBBB" + Bench.amount(2), "NO 09|");
        b.say("PAY", "AAAA", "91" + Bench.leg("AAAA", "AAAA", "EUR", 0), "NO 08|");
        b.tick(600);
        b.say("PAY", "AAAA", "91" + Bench.leg("AAAA", "AAAA", "EUR", 0), "NO 07|");
        for (String kind : new String[] {"NEWBBBB", "ASTEURC" + Bench.amount(0) + "00", "PRCEUR" + Bench.amount(0) + "00",
                "ISSEURBBBB" + Bench.amount(0), "REDEURBBBB" + Bench.amount(0), "RES"}) {
            b.say(kind.substring(0, 3), "AAAA", kind.substring(3), "NO 03|");
            b.say(kind.substring(0, 3), "ZZZZ", kind.substring(3), "NO 02|");
        }
        b.say("STM", "ZZZZ", "", "NO 02|");
    }

    private static void whoIsMissing() {
        Bench b = Bench.open("missing");
        b.say("PAY", "AAAA", "11" + Bench.leg("XXXX", "BBBB", "XXX", 1), "NO 04|");
        b.say("PAY", "AAAA", "11" + Bench.leg("AAAA", "XXXX", "XXX", 1), "NO 04|");
        b.say("PAY", "AAAA", "11" + Bench.leg("AAAA", "BBBB", "XXX", 1), "NO 05|");
        b.say("PAY", "AAAA", "12" + Bench.leg("AAAA", "BBBB", "XXX", 1) + Bench.leg("XXXX", "BBBB", "EUR", 1), "NO 05|");
        b.say("PAY", "AAAA", "12" + Bench.leg("AAAA", "AAAA", "EUR", 0) + Bench.leg("AAAA", "XXXX", "EUR", 1), "NO 04|");
        b.say("ISS", "CBNK", "XXXXXXX" + Bench.amount(1), "NO 05|");
        b.say("RED", "CBNK", "EURXXXX" + Bench.amount(1), "NO 04|");
        b.say("PRC", "CBNK", "XXX" + Bench.amount(1) + "00", "NO 05|");
        b.say("CNF", "AAAA", "XXXXNOTHING0", "NO 04|");
        b.say("LIM", "AAAA", "XXXX" + Bench.amount(1), "NO 04|");
        b.say("UNL", "AAAA", "XXXX", "NO 04|");
        b.say("PLG", "AAAA", "XXX" + Bench.amount(1), "NO 05|");
        b.say("UNP", "AAAA", "XXX" + Bench.amount(1), "NO 05|");
    }

    private static void references() {
        Bench b = Bench.open("references");
        b.sayAs("LIM", "AAAA", "R0000001", "BBBB" + Bench.amount(1), "OK|");
        b.sayAs("LIM", "AAAA", "R0000001", "BBBB" + Bench.amount(1), "OK AGAIN|");
        b.sayAs("LIM", "AAAA", "R0000001", "BBBB" + Bench.amount(2), "NO 06|");
        b.sayAs("UNL", "AAAA", "R0000001", "BBBB", "NO 06|");
        b.sayAs("LIM", "BBBB", "R0000001", "AAAA" + Bench.amount(1), "OK|");
        b.sayAs("STM", "AAAA", "R0000001", "", "OK|");
        b.sayAs("STM", "AAAA", "R0000001", "", "OK|");
        b.sayAs("NEW", "CBNK", "R0000009", "EEEE", "OK|");
        b.sayAs("RES", "CBNK", "R0000009", "", "OK|");
        b.sayAs("RES", "CBNK", "R0000009", "", "OK|");
        // One that was refused has not used its reference, and STM and RES use none.
        b.sayAs("UNL", "AAAA", "R0000002", "CCCC", "NO 08|");
        b.sayAs("UNL", "AAAA", "R0000002", "BBBB", "OK|");
        b.sayAs("STM", "AAAA", "R0000003", "", "OK|");
        b.sayAs("LIM", "AAAA", "R0000003", "BBBB" + Bench.amount(1), "OK|");
        // 97 more in the check digits: other bytes, so it is not the very same message.
        String sent = null;
        for (int i = 0; sent == null; i++) {
            String text = Bench.signed(String.format("LIMAAAAX%07dBBBB", i) + Bench.amount(5));
            sent = text.compareTo(text.substring(0, 34) + "03") < 0 ? text : null;
        }
        b.is("sent", b.ask(sent), "OK\n");
        b.is("with other digits", b.ask(sent.substring(0, 34) + (Integer.parseInt(sent.substring(34)) + 97)), "NO 06\n");
        b.is("the same", b.ask(sent), "OK AGAIN\n");
        b.tick(850);
        b.is("whatever the phase", b.ask(sent), "OK AGAIN\n");
        b.sayAs("CAN", "AAAA", "R0000003", "R0000001", "NO 06|");
        b.tick(100);
        b.is("another day", b.ask(sent), "OK\n");
    }

    private static void whatCanNotBe() {
        Bench b = Bench.open("can't be");
        b.say("NEW", "CBNK", "AAAA", "NO 08|");
        b.say("AST", "CBNK", "EURS" + Bench.amount(5) + "05", "NO 08|");
        b.say("PRC", "CBNK", "USD" + Bench.amount(5) + "05", "NO 08|");
        b.say("ISS", "CBNK", "EURCBNK" + Bench.amount(5), "NO 08|");
        b.say("ISS", "CBNK", "EURAAAA" + Bench.amount(0), "NO 08|");
        b.say("RED", "CBNK", "EURCBNK" + Bench.amount(5), "NO 08|");
        b.say("RED", "CBNK", "EURAAAA" + Bench.amount(0), "NO 08|");
        b.say("PAY", "AAAA", "11" + Bench.leg("AAAA", "CBNK", "EUR", 1), "NO 08|");
        b.say("PAY", "AAAA", "11" + Bench.leg("CBNK", "AAAA", "EUR", 1), "NO 08|");
        b.say("PAY", "AAAA", "11" + Bench.leg("AAAA", "AAAA", "EUR", 1), "NO 08|");
        b.say("PAY", "AAAA", "12" + Bench.leg("AAAA", "BBBB", "EUR", 1) + Bench.leg("AAAA", "BBBB", "EUR", 0), "NO 08|");
        b.say("LIM", "AAAA", "AAAA" + Bench.amount(1), "NO 08|");
        b.say("LIM", "AAAA", "CBNK" + Bench.amount(1), "NO 08|");
        b.say("LIM", "CBNK", "AAAA" + Bench.amount(1), "NO 08|");
        b.say("UNL", "AAAA", "BBBB", "NO 08|");
        b.say("UNL", "AAAA", "AAAA", "NO 08|");
        b.say("UNL", "CBNK", "AAAA", "NO 08|");
        b.say("PLG", "CBNK", "BND" + Bench.amount(1), "NO 08|");
        b.say("PLG", "AAAA", "EUR" + Bench.amount(1), "NO 08|");
        b.say("PLG", "AAAA", "BND" + Bench.amount(0), "NO 08|");
        b.say("UNP", "CBNK", "BND" + Bench.amount(1), "NO 08|");
        b.say("UNP", "AAAA", "EUR" + Bench.amount(1), "NO 08|");
        b.say("UNP", "AAAA", "BND" + Bench.amount(0), "NO 08|");
        b.say("UNP", "AAAA", "BND" + Bench.amount(1), "NO 08|");
        b.counts(5, 0);
    }

    private static void assetsAreSixtyFour() {
        Bench b = new Bench("64 assets");
        for (int i = 0; i < 64; i++) {
            b.quietly("AST", "CBNK", "X" + (10 + i) + (i % 2 == 0 ? "S" : "C") + Bench.amount(0) + "00");
        }
        b.counts(4, 64);
        b.say("AST", "CBNK", "Y99S" + Bench.amount(0) + "00", "NO 12|");
        b.say("AST", "CBNK", "X73C" + Bench.amount(0) + "00", "NO 08|");
        b.counts(4, 64);
        b.quietly("NEW", "CBNK", "AAAA");
        b.tick(100);
        for (int i = 0; i < 64; i += 9) {
            b.issue("X" + (10 + i), "AAAA", i + 1);
            b.holds(1, i, i + 1);
        }
        b.holds(0, 64, 0);
        b.holds(1, 64, 0);
        StringBuilder moved = new StringBuilder("OK|");
        StringBuilder kept = new StringBuilder("OK|");
        for (int i = 0; i < 64; i += 9) {
            moved.append("X" + (10 + i) + " 0 0 " + (i + 1) + " " + (i + 1) + " 1|");
            kept.append("X" + (10 + i) + " " + (i + 1) + " 0 0 " + (i + 1) + " 0|");
        }
        b.say("STM", "AAAA", "", moved.toString());
        b.pass(1000, "");
        b.say("STM", "AAAA", "", kept.toString());
    }
}
