/** Promise 5: fetch. */
public final class FetchTest {
    public static void main(String[] args) {
        wordsOfSeven();
        fullWordsAlone();
        theLatestAnswerAlone();
        goneWithThePower();
        Bench.finish();
    }

    private static void wordsOfSeven() {
        Bench b = Bench.open("words");
        b.issue("EUR", "AAAA", 100);
        b.sayAs("PAY", "AAAA", "REF00001", "11" + Bench.leg("AAAA", "BBBB", "EUR", 5), "OK DONE|SAAAAREF00001|");
        b.post(Bench.signed("PAYAAAAREF0000211" + Bench.leg("AAAA", "BBBB", "EUR", 5)));
        b.is("7 bytes", b.fetch(), 0x074F4B20444F4E45L);
        b.is("7 more", b.fetch(), 0x070A534141414152L);
        b.is("7 more", b.fetch(), 0x0745463030303032L);
        b.is("the last", b.fetch(), 0x010A000000000000L);
        b.is("no more", b.fetch(), 0L);
        b.is("no more again", b.fetch(), 0L);
        b.quietly("PAY", "AAAA", "10");
        b.is("NO 01", b.fetch(), 0x064E4F2030310A00L);
        b.is("behind it", b.fetch(), 0L);
    }

    private static void fullWordsAlone() {
        Bench b = Bench.open("full words");
        b.sayAs("PAY", "AAAA", "REF00001", "11" + Bench.leg("AAAA", "BBBB", "EUR", 5), "OK WAIT|");
        b.tick(800);
        b.is("BAAAARE", b.fetch(), 0x0742414141415245L);
        b.is("F00001 and the end", b.fetch(), 0x074630303030310AL);
        b.is("nothing behind two full words", b.fetch(), 0L);
    }

    private static void theLatestAnswerAlone() {
        Bench b = new Bench("latest");
        b.quietly("NEW", "CBNK", "AAAA");
        b.quietly("NEW", "CBNK", "AAAA");
        b.is("of the second alone", b.answer(), "NO 08\n");
        b.quietly("NEW", "CBNK", "BBBB");
        b.is("refused", b.send(1), 0);
        b.is("refused", b.tick(0), 0);
        b.is("refused", b.start(), 0);
        b.is("refused calls leave it", b.answer(), "OK\n");
        b.quietly("NEW", "CBNK", "CCCC");
        b.pass(1, "");
    }

    private static void goneWithThePower() {
        Bench b = new Bench("power");
        b.quietly("NEW", "CBNK", "AAAA");
        b.charge(0);
        b.is("tick", b.tick(5), 2);
        b.is("while down", b.fetch(), 0L);
        b.start();
        b.is("up again", b.fetch(), 0L);
        b.quietly("NEW", "CBNK", "BBBB");
        b.charge(0);
        b.is("a charge takes nothing", b.answer(), "OK\n");
    }
}
