/** Promise 7: start, and what the power can't take. */
public final class StartTest {
    public static void main(String[] args) {
        refusedWhileUp();
        thePowerGoesAgain();
        nothingIsLost();
        theCallUnderWay();
        Bench.finish();
    }

    private static void refusedWhileUp() {
        Bench b = new Bench("up");
        b.charge(0);
        b.is("start while up", b.start(), 0);
        b.counts(9, 0);
        b.is("the charge stays", b.tick(1), 2);
    }

    private static void thePowerGoesAgain() {
        Bench b = new Bench("again");
        b.charge(0);
        b.tick(1);
        b.charge(0);
        b.is("the power went", b.start(), 2);
        b.counts(0, 0);
        b.counts(9, 0);
        b.is("with the charge", b.start(), 1);
        b.counts(0, 1);
        b.counts(9, 1);
        b.counts(8, 0);
        b.is("up", b.start(), 0);
    }

    private static void nothingIsLost() {
        Bench b = Bench.open("nothing is lost");
        b.issue("EUR", "AAAA", 10);
        b.issue("BND", "BBBB", 10);
        b.quietly("PLG", "BBBB", "BND" + Bench.amount(1));
        b.quietly("LIM", "AAAA", "CCCC" + Bench.amount(3));
        b.sayAs("PAY", "AAAA", "P0000001", "21" + Bench.leg("AAAA", "BBBB", "EUR", 11), "OK WAIT|");
        b.sayAs("PAY", "AAAA", "P0000002", "21" + Bench.leg("BBBB", "AAAA", "EUR", 91), "OK CONF|");
        b.feed(1, 2, 3, 4, 5);
        b.charge(0);
        b.is("tick", b.tick(60), 2);
        b.start();
        int[] want = {1, 0, 100, 5, 3, 1, 1, 20};
        for (int what = 0; what < want.length; what++) {
            b.counts(what, want[what]);
        }
        b.send(1);
        b.sayAs("PAY", "AAAA", "P0000001", "21" + Bench.leg("AAAA", "BBBB", "EUR", 11), "OK AGAIN|");
        b.sayAs("PAY", "AAAA", "P0000001", "31" + Bench.leg("AAAA", "BBBB", "EUR", 11), "NO 06|");
        b.say("PAY", "AAAA", "11" + Bench.leg("AAAA", "CCCC", "EUR", 4), "OK WAIT|");
        b.sayAs("CNF", "BBBB", "C0000001", "AAAAP0000002", "OK WAIT|");
        b.pass(50, "");
        b.sayAs("CAN", "AAAA", "C0000002", "T0000013", "NO 11|");
        b.say("STM", "AAAA", "", "OK|EUR 0 0 10 10 1|");
        b.say("UNP", "BBBB", "BND" + Bench.amount(2), "NO 08|");
        b.say("UNP", "BBBB", "BND" + Bench.amount(1), "OK|");
    }

    private static void theCallUnderWay() {
        Bench b = Bench.open("under way");
        b.issue("EUR", "AAAA", 10);
        b.charge(0);
        String text = Bench.signed("PAYAAAAP000000121" + Bench.leg("AAAA", "BBBB", "EUR", 4));
        b.is("the power went", b.post(text), 2);
        b.counts(7, 0);
        b.holds(1, 0, 0);
        b.start();
        b.holds(1, 0, 10);
        b.holds(2, 0, 0);
        b.counts(5, 0);
        b.is("as if it had not been sent", b.ask(text), "OK DONE\nSAAAAP0000001\n");
        b.holds(1, 0, 6);
    }
}
