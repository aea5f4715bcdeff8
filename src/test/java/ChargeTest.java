/** Promise 6: charge, and what the disk writes. */
public final class ChargeTest {
    public static void main(String[] args) {
        outOfRange();
        exactlySoMany();
        theLatestCounts();
        goneWithThePower();
        saidWhileDown();
        aRecordOfTwoBlocks();
        whatIsNoRecord();
        theSnapshot();
        theSnapshotCutShort();
        theSizeOfASnapshot();
        Bench.finish();
    }

    private static void outOfRange() {
        Bench b = new Bench("range");
        b.is("-1", b.charge(-1), false);
        b.is("10000", b.charge(10000), false);
        b.is("lowest", b.charge(Integer.MIN_VALUE), false);
        b.is("highest", b.charge(Integer.MAX_VALUE), false);
        b.is("none of these counts", b.tick(1), 1);
        b.is("9999", b.charge(9999), true);
        b.is("0", b.charge(0), true);
        b.is("a wrong one leaves the right one", b.charge(-1), false);
        b.is("tick", b.tick(1), 2);
    }

    private static void exactlySoMany() {
        Bench b = new Bench("so many");
        b.charge(3);
        for (int i = 0; i < 3; i++) {
            b.is("tick " + i, b.tick(1), 1);
        }
        b.is("the next", b.tick(1), 2);
        b.counts(9, 3);
        b.is("down", b.tick(1), 0);
        b.is("down", b.count(0), 0);
        b.is("start", b.start(), 1);
        b.counts(2, 3);
        b.counts(9, 4);
    }

    private static void theLatestCounts() {
        Bench b = new Bench("latest");
        b.charge(0);
        b.charge(1);
        b.is("one", b.tick(1), 1);
        b.is("no more", b.tick(1), 2);
    }

    private static void goneWithThePower() {
        Bench b = new Bench("gone");
        b.charge(0);
        b.is("power went", b.tick(1), 2);
        b.is("start", b.start(), 1);
        for (int i = 0; i < 20; i++) {
            b.is("all can be written again", b.tick(1), 1);
        }
    }

    private static void saidWhileDown() {
        Bench b = new Bench("while down");
        b.charge(0);
        b.tick(1);
        b.is("while down", b.charge(2), true);
        b.is("start", b.start(), 1);
        b.is("one", b.tick(1), 1);
        b.is("no more", b.tick(1), 2);
        b.counts(9, 2);
    }

    /** Twenty NEW of 25 bytes fill the first block to its last byte. */
    private static Bench blockOfNew(String name, int many) {
        Bench b = new Bench(name);
        for (int i = 0; i < many; i++) {
            b.quietly("NEW", "CBNK", "N" + (100 + i));
        }
        return b;
    }

    private static void aRecordOfTwoBlocks() {
        Bench edge = blockOfNew("to the edge", 20);
        edge.counts(8, 1);
        edge.counts(9, 20);
        edge.tick(1);
        edge.counts(8, 2);
        edge.counts(9, 21);

        // 13 of 25 bytes and 22 of 8: one byte lies in the second block.
        Bench one = blockOfNew("a byte over the edge", 13);
        for (int i = 0; i < 22; i++) {
            one.tick(1);
        }
        one.counts(8, 2);
        one.counts(9, 13 + 22 + 1);

        Bench b = blockOfNew("over the edge", 19);
        b.tick(1);
        b.counts(8, 1);
        b.counts(9, 20);
        b.charge(1);
        String text = b.write("NEW", "CBNK", "LAST");
        b.is("one of two blocks", b.post(text), 2);
        b.counts(9, 21);
        b.start();
        b.counts(3, 20);
        b.counts(8, 1);
        b.is("it has no place, and its reference is free", b.ask(text), "OK\n");
        b.counts(9, 24);
        b.counts(8, 2);
        b.counts(3, 21);
    }

    private static void whatIsNoRecord() {
        Bench b = new Bench("no record");
        String text = b.write("NEW", "CBNK", "AAAA");
        b.is("OK", b.ask(text), "OK\n");
        b.charge(0);
        b.is("again", b.ask(text), "OK AGAIN\n");
        b.say("STM", "AAAA", "", "OK|");
        b.say("NEW", "CBNK", "AAAA", "NO 08|");
        b.say("NEW", "AAAA", "BBBB", "NO 03|");
        b.counts(9, 1);
        b.counts(8, 1);
        b.is("RES is one, but early", b.post(b.write("RES", "CBNK", "")), 1);
        b.charge(1);
        b.is("tick", b.tick(100), 1);
        b.is("RES is one", b.post(b.write("RES", "CBNK", "")), 2);
    }

    private static void theSnapshot() {
        Bench b = new Bench("snapshot");
        b.tick(999);
        b.counts(8, 1);
        b.counts(9, 1);
        b.tick(1);
        // Its record, 24 bytes of snapshot, the block that makes it count.
        b.counts(9, 4);
        b.counts(8, 0);
        b.tick(1);
        b.counts(8, 1);
        b.counts(9, 5);
        b.tick(1000);
        b.counts(1, 2);
        b.counts(2, 1);
        b.counts(9, 8);
        b.counts(8, 0);
    }

    private static void theSnapshotCutShort() {
        for (int written = 0; written <= 2; written++) {
            Bench b = new Bench("cut behind " + written);
            b.tick(999);
            b.charge(written);
            b.is("power went", b.tick(1), 2);
            b.start();
            b.counts(1, written == 0 ? 0 : 1);
            b.counts(2, written == 0 ? 999 : 0);
            b.counts(8, 1);
            b.counts(9, 1 + written + 1);
            b.is("the journal goes on", b.tick(3), 1);
            b.counts(8, written == 0 ? 0 : 1);
        }
        Bench whole = new Bench("not cut");
        whole.tick(999);
        whole.charge(3);
        whole.is("all written", whole.tick(1), 1);
        whole.counts(8, 0);
        whole.is("then no more", whole.tick(1), 2);
    }

    /** What a call of tick(1000) writes beside the block of its record. */
    private static int snapshotBlocks(Bench b) {
        int before = b.count(9);
        b.tick(1000);
        return b.count(9) - before - 1;
    }

    private static void theSizeOfASnapshot() {
        Bench b = new Bench("size");
        for (int i = 0; i < 6; i++) {
            b.quietly("AST", "CBNK", "AS" + i + (i == 5 ? "C" : "S") + Bench.amount(0) + "00");
        }
        for (int i = 0; i < 8; i++) {
            b.quietly("NEW", "CBNK", "PPP" + i);
        }
        b.tick(100);
        b.issue("AS0", "PPP0", 10);
        b.issue("AS5", "PPP0", 10);
        b.quietly("PLG", "PPP0", "AS0" + Bench.amount(4));
        b.is("small", snapshotBlocks(b), 2);
        // 20 + 4 * 9 + 14 * 6 = 140 bytes and 12 for each amount: four positions and a pledge, so 25 limits fill the block.
        int limits = 0;
        for (int i = 0; limits < 25; i++) {
            for (int j = 0; j < 8 && limits < 25; j++) {
                if (i != j) {
                    b.quietly("LIM", "PPP" + i, "PPP" + j + Bench.amount(limits % 2));
                    limits++;
                }
            }
        }
        b.is("full", snapshotBlocks(b), 2);
        b.quietly("LIM", "PPP7", "PPP0" + Bench.amount(7));
        b.is("more than a block", snapshotBlocks(b), 3);
        b.quietly("LIM", "PPP7", "PPP0" + Bench.amount(8));
        b.quietly("UNL", "PPP0", "PPP1");
        b.is("full again", snapshotBlocks(b), 2);
        b.quietly("UNL", "PPP7", "PPP0");
        b.quietly("PLG", "PPP0", "AS0" + Bench.amount(4));
        b.quietly("ISS", "CBNK", "AS5PPP1" + Bench.amount(1));
        b.is("full by a position", snapshotBlocks(b), 2);
        b.quietly("ISS", "CBNK", "AS5PPP2" + Bench.amount(1));
        b.is("more by a position", snapshotBlocks(b), 3);
        b.quietly("UNP", "PPP0", "AS0" + Bench.amount(8));
        b.is("full without a pledge", snapshotBlocks(b), 2);
        b.quietly("RED", "CBNK", "AS0PPP0" + Bench.amount(10));
        b.quietly("NEW", "CBNK", "PPP8");
        b.is("not full without two positions", snapshotBlocks(b), 2);
    }
}
