/** Promise 2: feed. */
public final class FeedTest {
    public static void main(String[] args) {
        theTapeIsFullAt400();
        theHighestByteIsFirst();
        whileDown();
        Bench.finish();
    }

    private static void theTapeIsFullAt400() {
        Bench b = new Bench("full tape");
        for (int i = 1; i <= 20; i++) {
            b.is("feed " + i, b.feed(i, -1, 0, Integer.MAX_VALUE, Integer.MIN_VALUE), true);
            b.counts(7, 20 * i);
        }
        b.is("feed 21", b.feed(1, 2, 3, 4, 5), false);
        b.counts(7, 400);
        b.is("send(401)", b.send(401), 0);
        b.is("send(400)", b.send(400), 1);
        b.is("a tape of bytes that no message has", b.answer(), "NO 01\n");
        b.counts(7, 0);
        b.is("feed on an empty tape", b.feed(1, 2, 3, 4, 5), true);
    }

    private static void theHighestByteIsFirst() {
        Bench b = new Bench("order of bytes");
        String text = Bench.signed("STMCBNK12345678");
        int[] words = new int[5];
        for (int i = 0; i < text.length(); i++) {
            words[i / 4] |= text.charAt(i) << 24 - 8 * (i % 4);
        }
        b.is("feed", b.feed(words[0], words[1], words[2], words[3], words[4]), true);
        b.is("send", b.send(17), 1);
        b.is("answer", b.answer(), "OK\n");
    }

    private static void whileDown() {
        Bench b = new Bench("feed while down");
        b.charge(0);
        b.is("tick", b.tick(1), 2);
        b.feedText(Bench.signed("STMCBNK12345678"));
        b.counts(7, 20);
        b.is("start", b.start(), 1);
        b.is("send of what was fed while down", b.send(17), 1);
        b.is("answer", b.answer(), "OK\n");
    }
}
