/** Promise 10: broken. */
public final class BrokenTest {
    public static void main(String[] args) {
        Bench b = Bench.open("never broken");
        b.is("at first", b.broken(), 0);
        b.issue("EUR", "AAAA", 10);
        b.issue("BND", "BBBB", 10);
        b.quietly("PLG", "BBBB", "BND" + Bench.amount(10));
        b.quietly("PAY", "BBBB", "11" + Bench.leg("BBBB", "AAAA", "EUR", 900));
        b.is("at the floor", b.broken(), 0);
        b.quietly("PAY", "BBBB", "11" + Bench.leg("BBBB", "AAAA", "EUR", 1));
        b.quietly("PRC", "CBNK", "BND" + Bench.amount(1) + "00");
        b.quietly("RED", "CBNK", "BNDBBBB" + Bench.amount(1));
        b.quietly("RES", "CBNK", "");
        b.is("behind all that was refused", b.broken(), 0);
        b.holds(2, 0, -900);
        b.holds(2, 2, 10);
        b.charge(0);
        b.tick(1);
        b.is("while down", b.broken(), 0);
        Bench.finish();
    }
}
