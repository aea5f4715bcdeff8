/** Promise 9: count. */
public final class CountTest {
    public static void main(String[] args) {
        everyNumber();
        whileDown();
        noSuchNumber();
        Bench.finish();
    }

    private static Bench busy(String name) {
        Bench b = Bench.open(name);
        b.quietly("PAY", "AAAA", "11" + Bench.leg("AAAA", "BBBB", "EUR", 5));
        b.quietly("PAY", "AAAA", "11" + Bench.leg("AAAA", "BBBB", "EUR", 5));
        b.quietly("PAY", "AAAA", "11" + Bench.leg("BBBB", "AAAA", "EUR", 5));
        b.feed(0, 0, 0, 0, 0);
        return b;
    }

    private static void everyNumber() {
        Bench b = busy("every number");
        // 3 AST of 42 bytes, 4 NEW of 25, 1 tick of 8, 3 PAY of 49: 126 + 100 + 8 + 147 in one block.
        int[] want = {1, 0, 100, 5, 3, 2, 1, 20, 1, 11};
        for (int what = 0; what < want.length; what++) {
            b.counts(what, want[what]);
        }
        b.tick(1000);
        // Record in the same block, 20 + 4 * 5 + 14 * 3 bytes of snapshot and the block that makes it count.
        int[] later = {1, 1, 100, 5, 3, 0, 0, 20, 0, 14};
        for (int what = 0; what < later.length; what++) {
            b.counts(what, later[what]);
        }
    }

    private static void whileDown() {
        Bench b = busy("while down");
        b.charge(0);
        b.tick(1);
        int[] want = {0, 0, 0, 0, 0, 0, 0, 20, 0, 11};
        for (int what = 0; what < want.length; what++) {
            b.counts(what, want[what]);
        }
        b.start();
        int[] again = {1, 0, 100, 5, 3, 2, 1, 20, 1, 12};
        for (int what = 0; what < again.length; what++) {
            b.counts(what, again[what]);
        }
    }

    private static void noSuchNumber() {
        Bench b = new Bench("no such number");
        for (int what : new int[] {-1, 10, 11, 99, Integer.MIN_VALUE, Integer.MAX_VALUE}) {
            b.counts(what, -1);
        }
        b.charge(0);
        b.tick(1);
        b.counts(10, -1);
        b.counts(-1, -1);
    }
}
