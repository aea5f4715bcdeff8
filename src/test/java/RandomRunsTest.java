import java.util.ArrayList;
import java.util.HashMap;
import java.util.List;
import java.util.Map;
import java.util.Random;

/** All promises: runs of calls by fixed seeds, each answer compared with that of PlainHouse. */
public final class RandomRunsTest {
    private static final int SEEDS = 300;
    private static final int MOST_WAITING = 9;
    private static final String[] CODES = {"AAAA", "BBBB", "CCCC", "DDDD", "CBNK", "EEEE"};
    private static final String[] ASSETS = {"EUR", "BND", "USD", "SHR", "XXX"};
    private static final String[] KINDS = {"PAY", "PAY", "PAY", "PAY", "PAY", "PAY", "PAY", "PAY", "PAY", "PAY", "PAY", "PAY",
        "PAY", "PAY", "CNF", "CNF", "CNF", "CNF", "CAN", "PRI", "LIM", "UNL", "PLG", "PLG", "UNP", "PRC", "ISS", "ISS", "RED",
        "RES", "RES", "STM", "NEW", "AST"};

    private final Random random;
    private final SettlementHouse house = new SettlementHouse();
    private final PlainHouse plain = new PlainHouse();
    private final List<String> trail = new ArrayList<>();
    private final List<String> sent = new ArrayList<>();
    private final List<String> paid = new ArrayList<>();
    private final Map<String, String[]> payersOf = new HashMap<>();
    /** Large amounts in some runs, so that credits leave what a long can hold. */
    private final boolean large;
    private int references = 0;
    private boolean right = true;

    private RandomRunsTest(int seed) {
        random = new Random(seed);
        large = seed % 5 == 0;
    }

    public static void main(String[] args) {
        int seeds = args.length > 0 ? Integer.parseInt(args[0]) : SEEDS;
        int wrong = 0;
        for (int seed = 0; seed < seeds && wrong < 3; seed++) {
            RandomRunsTest run = new RandomRunsTest(seed);
            if (!run.isRight()) {
                wrong++;
                System.out.println("seed " + seed + ": " + String.join("\n  ", run.trail));
            }
        }
        System.out.println(wrong == 0 ? "all answers are as due" : wrong + " runs are not as due");
        if (wrong != 0) {
            System.exit(1);
        }
    }

    private boolean isRight() {
        setUp();
        while (right && trail.size() < Bench.MOST_CALLS - 12) {
            step();
        }
        for (int what = -1; what <= 10 && right; what++) {
            due("count(" + what + ")", house.count(what), plain.count(what));
        }
        return right;
    }

    private void due(String call, Object got, Object want) {
        trail.add(call + " -> " + got);
        if (!got.equals(want)) {
            trail.add("   due is " + want);
            right = false;
        }
    }

    private void setUp() {
        String[] order = random.nextBoolean() ? new String[] {"EUR", "BND", "USD"} : new String[] {"BND", "EUR", "USD"};
        for (String asset : order) {
            String terms = asset.equals("BND") ? "S" + Bench.amount(price()) + "13" : "C" + Bench.amount(0) + "00";
            post(Bench.signed("ASTCBNK" + fresh() + asset + terms));
        }
        for (int i = 0; i < 4; i++) {
            post(Bench.signed("NEWCBNK" + fresh() + CODES[i]));
        }
        tick(95 + random.nextInt(20));
        for (int i = 0; i < 4; i++) {
            post(Bench.signed("ISSCBNK" + fresh() + ASSETS[random.nextInt(3)] + CODES[random.nextInt(4)] + Bench.amount(1 + amount())));
        }
    }

    private String fresh() {
        references++;
        return String.format("R%07d", references);
    }

    private void step() {
        int what = random.nextInt(40);
        if (plain.count(0) == 0) {
            stepWhileDown(what);
        } else if (what < 3) {
            tick(ticks());
        } else if (what == 3) {
            charge(random.nextInt(6));
        } else if (what == 4) {
            looks();
        } else if (what == 5) {
            nonsense();
        } else {
            post(message());
        }
    }

    private void stepWhileDown(int what) {
        if (what < 6) {
            post(message());
        } else if (what < 10) {
            charge(random.nextInt(3));
        } else if (what < 14) {
            tick(ticks());
        } else if (what < 18) {
            looks();
        } else {
            due("start()", house.start(), plain.start());
        }
    }

    private int ticks() {
        switch (random.nextInt(8)) {
            case 0: return random.nextInt(1001);
            case 1: return 1000 - plain.count(2) + 100;
            default: return 1 + random.nextInt(60);
        }
    }

    private void tick(int n) {
        due("tick(" + n + ")", house.tick(n), plain.tick(n));
        fetchAll();
    }

    private void charge(int n) {
        due("charge(" + n + ")", house.charge(n), plain.charge(n));
    }

    private void looks() {
        int p = random.nextInt(6) - 1;
        int a = random.nextInt(5) - 1;
        due("position(" + p + ", " + a + ")", house.position(p, a), plain.position(p, a));
        int what = random.nextInt(12) - 1;
        due("count(" + what + ")", house.count(what), plain.count(what));
        due("broken()", house.broken(), 0);
    }

    private void nonsense() {
        int n = random.nextInt(60) - 5;
        switch (random.nextInt(4)) {
            case 0: due("send(" + n + ")", house.send(n), plain.send(n)); break;
            case 1: due("tick", house.tick(1001), plain.tick(1001)); break;
            case 2: due("start()", house.start(), plain.start()); break;
            default: due("charge", house.charge(-1), plain.charge(-1));
        }
    }

    private void fetchAll() {
        // Now and then something is left, or asked for once more.
        int more = random.nextInt(12) == 0 ? random.nextInt(4) : 100;
        boolean full = true;
        for (int i = 0; i < more && full && right; i++) {
            long want = plain.fetch();
            long got = house.fetch();
            due("fetch() '" + text(got) + "'", got, want);
            full = want >>> 56 == 7;
        }
    }

    private static String text(long word) {
        StringBuilder text = new StringBuilder();
        for (int i = 0; i < word >>> 56; i++) {
            text.append((char) (word >>> 48 - 8 * i & 255));
        }
        return text.toString().replace('\n', '|');
    }

    private void post(String text) {
        if (trail.size() > Bench.MOST_CALLS - 30) {
            return;
        }
        String padded = text + "\0".repeat((20 - text.length() % 20) % 20);
        for (int i = 0; i < padded.length(); i += 20) {
            int[] w = new int[5];
            for (int k = 0; k < 20; k++) {
                w[k / 4] = w[k / 4] << 8 | padded.charAt(i + k) & 255;
            }
            due("feed", house.feed(w[0], w[1], w[2], w[3], w[4]), plain.feed(padded.substring(i, i + 20)));
        }
        // Behind bytes that were on the tape already this is another message, or none.
        due("send of " + text, house.send(text.length()), plain.send(text.length()));
        fetchAll();
    }

    private String pick(String[] from, int most) {
        // Those at the end of the row are there to be wrong, and picked seldom.
        return from[random.nextInt(random.nextInt(25) == 0 ? from.length : most)];
    }

    private long price() {
        return large ? (long) (random.nextDouble() * Math.pow(10, 1 + random.nextInt(15))) : random.nextInt(4);
    }

    private long amount() {
        int kind = random.nextInt(40);
        if (kind == 0) {
            return 0;
        }
        if (large && kind < 16) {
            return (long) (random.nextDouble() * Math.pow(10, 1 + random.nextInt(15)));
        }
        return 1 + random.nextInt(6);
    }

    /** Mostly not more than there is. */
    private long partOf(long there) {
        return there <= 0 || random.nextInt(4) == 0 ? amount() : 1 + (long) (random.nextDouble() * Math.min(there, 999999999999998L));
    }

    private String reference() {
        return random.nextInt(25) == 0 && references > 0 ? String.format("R%07d", 1 + random.nextInt(references)) : fresh();
    }

    private String message() {
        if (!sent.isEmpty() && random.nextInt(30) == 0) {
            return sent.get(random.nextInt(sent.size()));
        }
        String kind = KINDS[random.nextInt(KINDS.length)];
        if ((kind.equals("PAY") || kind.equals("CNF")) && plain.count(5) >= MOST_WAITING) {
            kind = random.nextBoolean() ? "CAN" : "RES";
        }
        boolean ofBank = List.of("NEW", "AST", "PRC", "ISS", "RED", "RES").contains(kind);
        String sender = ofBank && random.nextInt(20) != 0 ? "CBNK" : pick(CODES, 4);
        String reference = reference();
        String target = target(kind);
        if ((kind.equals("CAN") || kind.equals("PRI")) && random.nextInt(8) != 0) {
            sender = target.substring(0, 4);
        }
        if (kind.equals("CNF") && random.nextInt(8) != 0) {
            String[] payers = payersOf.getOrDefault(target, CODES);
            sender = payers[random.nextInt(payers.length)];
        }
        String fields = fields(kind, sender, target);
        String text = Bench.signed(kind + sender + reference + fields);
        if (kind.equals("PAY")) {
            paid.add(sender + reference);
            payersOf.put(sender + reference, fields.substring(2).replaceAll("(.{4}).{22}", "$1 ").split(" "));
        }
        sent.add(text);
        if (random.nextInt(60) == 0) {
            int at = random.nextInt(text.length());
            text = text.substring(0, at) + "0A Z9a".charAt(random.nextInt(6)) + text.substring(at + 1);
        }
        return text;
    }

    /** Sender and reference of an instruction: mostly of one that can be meant, now and then of any that was. */
    private String target(String kind) {
        List<String> all = plain.waiting(!kind.equals("CNF"));
        if (all.isEmpty() || random.nextInt(8) == 0) {
            all = paid;
        }
        return all.isEmpty() ? "CBNKR0000001" : all.get(random.nextInt(all.size()));
    }

    private String fields(String kind, String sender, String target) {
        switch (kind) {
            case "NEW": return pick(CODES, 4);
            case "AST": return pick(ASSETS, 5) + (random.nextBoolean() ? "C" + Bench.amount(0) + "00" : "S" + Bench.amount(price()) + "05");
            case "PRC": return pick(new String[] {"BND", "BND", "SHR", "EUR"}, 2) + Bench.amount(price()) + String.format("%02d", random.nextInt(100));
            case "ISS":
            case "RED": return pick(ASSETS, 3) + pick(CODES, 4) + Bench.amount(amount());
            case "PAY": return pay(sender);
            case "CNF": return target;
            case "CAN": return target.substring(4);
            case "PRI": return target.substring(4) + (1 + random.nextInt(9));
            case "LIM": return pick(CODES, 4) + Bench.amount(random.nextInt(10));
            case "UNL": return pick(CODES, 4);
            case "PLG": return pick(new String[] {"BND", "BND", "SHR", "EUR"}, 2) + Bench.amount(partOf(plain.free(sender, "BND")));
            case "UNP": return pick(new String[] {"BND", "BND", "SHR", "EUR"}, 2) + Bench.amount(amount());
            default: return "";
        }
    }

    private String pay(String sender) {
        int many = random.nextInt(4) == 0 ? 1 + random.nextInt(4) : 1;
        StringBuilder text = new StringBuilder().append(1 + random.nextInt(random.nextBoolean() ? 9 : 3)).append(many);
        for (int i = 0; i < many; i++) {
            String from = random.nextInt(6) != 0 ? sender : pick(CODES, 4);
            String to = pick(CODES, 4);
            if (from.equals(to) && random.nextInt(10) != 0) {
                to = CODES[(from.charAt(0) - 'A' + 1) % 4];
            }
            text.append(Bench.leg(from, to, random.nextInt(4) != 0 ? "EUR" : pick(ASSETS, 3), amount()));
        }
        return text.toString();
    }
}
