/** Promise 8: position. */
public final class PositionTest {
    public static void main(String[] args) {
        inTheOrderInWhichTheyCame();
        noneSuch();
        whileDown();
        exactInLargeAmounts();
        Bench.finish();
    }

    private static void inTheOrderInWhichTheyCame() {
        Bench b = Bench.open("order");
        b.issue("EUR", "BBBB", 7);
        b.issue("BND", "DDDD", 9);
        b.holds(0, 0, -7);
        b.holds(2, 0, 7);
        b.holds(0, 2, -9);
        b.holds(4, 2, 9);
        b.holds(1, 0, 0);
        b.quietly("RED", "CBNK", "BNDDDDD" + Bench.amount(4));
        b.holds(4, 2, 5);
        b.holds(0, 2, -5);
    }

    private static void noneSuch() {
        Bench b = Bench.open("none such");
        b.issue("EUR", "AAAA", 7);
        b.holds(-1, 0, 0);
        b.holds(5, 0, 0);
        b.holds(0, 3, 0);
        b.holds(0, -1, 0);
        b.holds(1, 64, 0);
        b.holds(256, 0, 0);
        b.holds(Integer.MIN_VALUE, Integer.MAX_VALUE, 0);
        b.holds(Integer.MAX_VALUE, Integer.MIN_VALUE, 0);
    }

    private static void whileDown() {
        Bench b = Bench.open("down");
        b.issue("EUR", "AAAA", 7);
        b.charge(0);
        b.tick(1);
        b.holds(1, 0, 0);
        b.start();
        b.holds(1, 0, 7);
    }

    private static void exactInLargeAmounts() {
        Bench b = Bench.open("large");
        for (int i = 0; i < 12; i++) {
            b.issue("USD", "AAAA", 999999999999999L);
        }
        b.holds(1, 1, 11999999999999988L);
        b.holds(0, 1, -11999999999999988L);
    }
}
