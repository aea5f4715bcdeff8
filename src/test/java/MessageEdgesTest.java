/** The edges of the document's MESSAGES, but for faults and references: a method for each sentence, which stands above it. */
public final class MessageEdgesTest {
    private static final String LETTERS = "0123456789ABCDEFGHIJKLMNOPQRSTUVWXYZ";
    private static final String LEG = "AAAABBBBEUR000000000000001";

    /** One right message of each kind (of PAY one for each number of legs) behind its reference, for Bench.open. */
    private static final String[] RIGHT = {"NEWCBNK EEEE", "ASTCBNK GBPC00000000000000000", "ASTCBNK SHRS00000000000000000",
        "PRCCBNK BND00000000000000000", "ISSCBNK EURAAAA000000000000001", "REDCBNK EURAAAA000000000000001",
        "PAYAAAA 11" + LEG, "PAYAAAA 12" + LEG.repeat(2), "PAYAAAA 13" + LEG.repeat(3), "PAYAAAA 14" + LEG.repeat(4),
        "CNFAAAA BBBB00000000", "CANAAAA 00000000", "PRIAAAA 000000001", "LIMAAAA BBBB000000000000001", "UNLAAAA BBBB",
        "PLGAAAA BND000000000000001", "UNPAAAA BND000000000000001", "RESCBNK ", "STMAAAA "};

    /** The places behind the reference: d in a digit, s a sort, all others are of codes and references. */
    private static final String[] PLACES = {"....", "...sddddddddddddddddd", "...sddddddddddddddddd", "...ddddddddddddddddd",
        ".......ddddddddddddddd", ".......ddddddddddddddd", "dd...........ddddddddddddddd",
        "dd" + "...........ddddddddddddddd".repeat(2), "dd" + "...........ddddddddddddddd".repeat(3),
        "dd" + "...........ddddddddddddddd".repeat(4), "............", "........", "........d", "....ddddddddddddddd", "....",
        "...ddddddddddddddd", "...ddddddddddddddd", "", ""};

    public static void main(String[] args) {
        everyByte();
        everyCheckDigit();
        everyLength();
        everyNeighbourOfAKind();
        digitsAndCodes();
        everySort();
        nothingForACurrency();
        everyPriority();
        everyNumberOfLegs();
        amountsFromLeastToMost();
        codesFromLeastToMost();
        referencesFromLeastToMost();
        theBankIsThere();
        theFirstCurrency();
        everyLineEnds();
        Bench.finish();
    }

    private static String body(String right) {
        return right.replace(" ", "REF00001");
    }

    private static boolean isMessage(String text) {
        return !Bench.open("a message").ask(text).equals("NO 01\n");
    }

    /** "A MESSAGE are bytes, all of them 0 .. 9 or A .. Z" */
    private static void everyByte() {
        for (char c = 0; c < 256; c++) {
            Bench b = new Bench("byte " + (int) c);
            if (LETTERS.indexOf(c) >= 0) {
                b.is("taken", b.ask(Bench.signed("STMCBNK000" + c + "0000")), "OK\n");
                continue;
            }
            // Such a byte has no value that check digits could be right for, so all of them are tried.
            for (int check = 0; check < 97; check++) {
                b.post("STMCBNK000" + c + "0000" + String.format("%02d", check));
                b.is("NO 01", b.fetch(), 0x064E4F2030310A00L);
            }
        }
    }

    /** "the whole row of digits is a number that leaves 1 when it is divided by 97" */
    private static void everyCheckDigit() {
        for (int row = 0; row < 97; row += 8) {
            Bench b = new Bench("check digits");
            String body = String.format("STMCBNK%08d", row);
            for (int check = 0; check < 100; check++) {
                String text = body + String.format("%02d", check);
                b.post(text);
                b.is(text, b.fetch(), Bench.rest(text) == 1 ? 0x034F4B0A00000000L : 0x064E4F2030310A00L);
            }
        }
        // A letter is two digits of the row, but no check digit.
        int tried = 0;
        for (int i = 0; i < 4000; i++) {
            String text = String.format("STMCBNK%08d", i / 4) + "A1B".substring(i % 2, i % 2 + 2).replace('B', (char) ('B' + i % 4));
            if (Bench.rest(text) == 1) {
                tried++;
                Bench.due("letters in " + text, new Bench("letters").ask(text), "NO 01\n");
            }
        }
        Bench.due("rows with letters at the end that leave 1", tried > 10, true);
    }

    /** "too short or long for its kind" */
    private static void everyLength() {
        for (String right : RIGHT) {
            String body = body(right);
            for (int length = 0; length <= body.length() + 30; length++) {
                String text = length <= body.length() ? body.substring(0, length) : body + "0".repeat(length - body.length());
                Bench.due("of that length " + text, isMessage(Bench.signed(text)), length == body.length());
            }
            Bench.due("one leg more " + body, isMessage(Bench.signed(body + LEG)), false);
            Bench.due("as long as can be " + body, isMessage(Bench.signed(body + "0".repeat(398 - body.length()))), false);
        }
        // Without their check digits these are none, whatever they leave.
        Bench.due("1", isMessage("1"), false);
        Bench.due("01", isMessage("01"), false);
        Bench.due("98", isMessage("98"), false);
    }

    /** "no such kind" */
    private static void everyNeighbourOfAKind() {
        for (String right : RIGHT) {
            String body = body(right);
            for (int place = 0; place < 3; place++) {
                for (char c : LETTERS.toCharArray()) {
                    String other = body.substring(0, place) + c + body.substring(place + 1);
                    Bench.due("kind of " + other, isMessage(Bench.signed(other)), other.equals(body));
                }
            }
        }
        // Three letters that stand side by side where the kinds are written in a row.
        Bench.due("EWA", isMessage(Bench.signed("EWACBNKREF00001EEEE")), false);
        Bench.due("MUN", isMessage(Bench.signed("MUNAAAAREF00001BBBB")), false);
    }

    /** "bytes, digits or codes as said" */
    private static void digitsAndCodes() {
        for (int i = 0; i < RIGHT.length; i++) {
            String body = body(RIGHT[i]);
            Bench.due("places of " + body, PLACES[i].length(), body.length() - 15);
            for (int place = 15; place < body.length(); place++) {
                boolean ofCode = PLACES[i].charAt(place - 15) == '.';
                for (char c : new char[] {'A', 'O', 'Z'}) {
                    String other = body.substring(0, place) + c + body.substring(place + 1);
                    Bench.due("letter at " + place + " of " + other, isMessage(Bench.signed(other)), ofCode);
                }
                if (ofCode) {
                    String other = body.substring(0, place) + "0" + body.substring(place + 1);
                    Bench.due("digit at " + place + " of " + other, isMessage(Bench.signed(other)), true);
                }
            }
        }
    }

    /** "sort: C a currency, S a security" */
    private static void everySort() {
        for (char c : LETTERS.toCharArray()) {
            Bench b = new Bench("sort " + c);
            b.say("AST", "CBNK", "XXX" + c + Bench.amount(0) + "00", c == 'C' || c == 'S' ? "OK|" : "NO 01|");
            b.counts(4, c == 'C' || c == 'S' ? 1 : 0);
        }
    }

    /** "price: an amount, haircut: 2 digits (both 0 for a currency, else it is no message)" */
    private static void nothingForACurrency() {
        Bench b = new Bench("terms");
        b.say("AST", "CBNK", "AAAC" + Bench.amount(1) + "00", "NO 01|");
        b.say("AST", "CBNK", "AAAC100000000000000" + "00", "NO 01|");
        b.say("AST", "CBNK", "AAAC" + Bench.amount(0) + "01", "NO 01|");
        b.say("AST", "CBNK", "AAAC" + Bench.amount(0) + "10", "NO 01|");
        b.say("AST", "CBNK", "AAAC" + Bench.amount(0) + "00", "OK|");
        b.say("AST", "CBNK", "BBBS" + Bench.amount(0) + "00", "OK|");
        b.say("AST", "CBNK", "CCCS" + Bench.amount(999999999999999L) + "00", "OK|");
        b.say("AST", "CBNK", "DDDS" + Bench.amount(0) + "99", "OK|");
        b.say("AST", "CBNK", "EEES" + Bench.amount(999999999999999L) + "99", "OK|");
        // The fault comes ahead of all others, and a security's terms are never those of a currency.
        b.say("AST", "ZZZZ", "AAAC" + Bench.amount(1) + "00", "NO 01|");
        b.say("PRC", "CBNK", "AAA" + Bench.amount(1) + "00", "NO 08|");
        b.say("PRC", "CBNK", "BBB" + Bench.amount(999999999999999L) + "99", "OK|");
        b.say("PRC", "CBNK", "BBB" + Bench.amount(0) + "00", "OK|");
        b.counts(4, 5);
    }

    /** "priority: 1 digit 1 .. 9 (1 the first)" */
    private static void everyPriority() {
        Bench b = Bench.open("priorities");
        for (int i = 9; i >= 0; i--) {
            b.sayAs("PAY", "AAAA", "PAY0000" + i, i + "1" + LEG, i == 0 ? "NO 01|" : "OK WAIT|");
            b.say("PRI", "AAAA", "NOTHING0" + i, i == 0 ? "NO 01|" : "NO 11|");
        }
        StringBuilder lines = new StringBuilder("OK|");
        for (int i = 1; i <= 9; i++) {
            lines.append("SAAAAPAY0000" + i + "|");
        }
        b.say("ISS", "CBNK", "EURAAAA" + Bench.amount(9), lines.toString());
    }

    /** "many: 1 digit 1 .. 4" */
    private static void everyNumberOfLegs() {
        for (int many = 0; many <= 9; many++) {
            for (int legs = 0; legs <= 9; legs++) {
                Bench b = Bench.open(many + " of " + legs);
                boolean right = many == legs && many >= 1 && many <= 4;
                b.say("PAY", "AAAA", "1" + many + LEG.repeat(legs), right ? "OK WAIT|" : "NO 01|");
                if (right) {
                    b.say("ISS", "CBNK", "EURAAAA" + Bench.amount(many), "OK|SAAAAT0000008|");
                    b.holds(2, 0, many);
                }
            }
        }
    }

    /** "an AMOUNT (15 digits)" */
    private static void amountsFromLeastToMost() {
        Bench b = Bench.open("amounts");
        long most = 999999999999999L;
        b.say("ISS", "CBNK", "EURAAAA" + Bench.amount(most), "OK|");
        b.say("LIM", "AAAA", "BBBB" + Bench.amount(most), "OK|");
        b.say("PAY", "AAAA", "11" + Bench.leg("AAAA", "BBBB", "EUR", most), "OK DONE|SAAAAT0000010|");
        b.say("LIM", "AAAA", "BBBB" + Bench.amount(most - 1), "NO 09|");
        b.say("RED", "CBNK", "EURBBBB" + Bench.amount(most), "OK|");
        b.say("RED", "CBNK", "EURBBBB" + Bench.amount(1), "NO 09|");
        b.say("ISS", "CBNK", "EURBBBB" + Bench.amount(1), "OK|");
        b.say("PAY", "BBBB", "11" + Bench.leg("BBBB", "CCCC", "EUR", 1), "OK DONE|SBBBBT0000015|");
        b.say("ISS", "CBNK", "BNDAAAA" + Bench.amount(most), "OK|");
        b.say("PLG", "AAAA", "BND" + Bench.amount(most), "OK|");
        b.say("UNP", "AAAA", "BND" + Bench.amount(most), "OK|");
        b.say("PLG", "AAAA", "BND" + Bench.amount(1), "OK|");
        // A digit at each place counts for what it is.
        b.say("ISS", "CBNK", "USDDDDD" + "123456789012345", "OK|");
        b.holds(4, 1, 123456789012345L);
    }

    /** "a code of a participant (4), of an asset (3)" */
    private static void codesFromLeastToMost() {
        Bench b = new Bench("codes");
        String[] codes = {"0000", "000Z", "Z000", "ZZZZ", "0001", "1000", "00A0"};
        for (String code : codes) {
            b.say("STM", code, "", "NO 02|");
            b.say("NEW", "CBNK", code, "OK|");
            b.say("STM", code, "", "OK|");
        }
        String[] assets = {"000", "00Z", "Z00", "ZZZ", "001", "100", "0A0"};
        for (String code : assets) {
            b.say("PRC", "CBNK", code + Bench.amount(1) + "00", "NO 05|");
            b.say("AST", "CBNK", code + "S" + Bench.amount(1) + "00", "OK|");
            b.say("PRC", "CBNK", code + Bench.amount(2) + "00", "OK|");
        }
        b.tick(100);
        for (int i = 0; i < codes.length; i++) {
            b.issue(assets[i], codes[i], i + 1);
            b.holds(i + 1, i, i + 1);
            b.say("STM", codes[i], "", "OK|" + assets[i] + " 0 0 " + (i + 1) + " " + (i + 1) + " 1|");
        }
    }

    /** "its REFERENCE (8)" */
    private static void referencesFromLeastToMost() {
        Bench b = Bench.open("references");
        String[] references = {"00000000", "0000000Z", "Z0000000", "ZZZZZZZZ", "00000001", "10000000"};
        for (String reference : references) {
            b.sayAs("PAY", "AAAA", reference, "11" + LEG, "OK WAIT|");
        }
        b.counts(5, references.length);
        b.say("CAN", "AAAA", "Z0000000", "OK|");
        b.say("PRI", "AAAA", "000000001", "OK|");
        b.say("ISS", "CBNK", "EURAAAA" + Bench.amount(9),
            "OK|SAAAA0000000Z|SAAAAZZZZZZZZ|SAAAA00000001|SAAAA10000000|SAAAA00000000|");
    }

    /** "The BANK is the participant CBNK, there from the beginning." */
    private static void theBankIsThere() {
        Bench b = new Bench("the bank");
        b.say("STM", "CBNK", "", "OK|");
        b.say("NEW", "CBNK", "CBNK", "NO 08|");
        for (String other : new String[] {"CBNJ", "CBNL", "BBNK", "0000"}) {
            b.say("STM", other, "", "NO 02|");
            b.say("NEW", other, "AAAA", "NO 02|");
        }
        b.say("NEW", "CBNK", "CBNL", "OK|");
        b.say("NEW", "CBNL", "AAAA", "NO 03|");
        b.counts(3, 2);
    }

    /** "The first currency is that which was the first currency made." */
    private static void theFirstCurrency() {
        Bench b = new Bench("the first currency");
        b.quietly("AST", "CBNK", "BNDS" + Bench.amount(10) + "00");
        b.quietly("AST", "CBNK", "ZZZC" + Bench.amount(0) + "00");
        b.quietly("AST", "CBNK", "000C" + Bench.amount(0) + "00");
        b.quietly("NEW", "CBNK", "AAAA");
        b.quietly("NEW", "CBNK", "BBBB");
        b.quietly("LIM", "AAAA", "BBBB" + Bench.amount(5));
        b.tick(100);
        b.issue("BND", "AAAA", 1);
        b.quietly("PLG", "AAAA", "BND" + Bench.amount(1));
        b.say("RED", "CBNK", "000AAAA" + Bench.amount(1), "NO 09|");
        b.say("RED", "CBNK", "ZZZAAAA" + Bench.amount(4), "OK|");
        b.issue("000", "AAAA", 6);
        b.say("PAY", "AAAA", "11" + Bench.leg("AAAA", "BBBB", "000", 6), "OK DONE|SAAAAT0000012|");
        b.say("PAY", "AAAA", "11" + Bench.leg("AAAA", "BBBB", "ZZZ", 6), "OK WAIT|");
        b.say("PAY", "AAAA", "11" + Bench.leg("AAAA", "BBBB", "ZZZ", 5), "OK WAIT|");
        b.say("CAN", "AAAA", "T0000013", "OK|SAAAAT0000014|");
        b.tick(700);
        b.say("PAY", "BBBB", "11" + Bench.leg("BBBB", "AAAA", "000", 1), "NO 07|");
        b.say("PAY", "BBBB", "11" + Bench.leg("BBBB", "AAAA", "BND", 1), "NO 07|");
        b.say("PAY", "BBBB", "11" + Bench.leg("BBBB", "AAAA", "ZZZ", 1), "OK DONE|SBBBBT0000018|");
    }

    /** "bytes, each line ends with 10" */
    private static void everyLineEnds() {
        Bench b = Bench.open("lines");
        b.quietly("ISS", "CBNK", "EURAAAA" + Bench.amount(5));
        b.is("OK", b.fetch(), 0x034F4B0A00000000L);
        b.is("no more", b.fetch(), 0L);
        b.sayAs("PAY", "AAAA", "PAY00001", "11" + LEG, "OK DONE|SAAAAPAY00001|");
        b.sayAs("PAY", "AAAA", "PAY00001", "11" + LEG, "OK AGAIN|");
        b.sayAs("PAY", "BBBB", "PAY00001", "11" + LEG, "OK CONF|");
        b.sayAs("PAY", "CCCC", "PAY00001", "11" + Bench.leg("CCCC", "AAAA", "EUR", 1), "OK WAIT|");
        b.say("STM", "AAAA", "", "OK|EUR 0 1 5 4 2|");
        b.say("STM", "DDDD", "", "OK|");
        b.say("UNL", "AAAA", "BBBB", "NO 08|");
        b.pass(800, "BCCCCPAY00001|BBBBBPAY00001|");
    }
}
