import java.math.BigInteger;
import java.util.ArrayList;
import java.util.LinkedHashMap;
import java.util.List;
import java.util.Map;
import java.util.TreeMap;
import java.util.TreeSet;

/**
 * A second house, written from the document in its plainest form and slow: whole texts, exact numbers of any size, a copy
 * of all it has before each call, and gridlock resolved by trying every set.
 */
final class PlainHouse {
    static final class Order {
        String sender;
        String reference;
        int priority;
        int came;
        boolean queued;
        List<String[]> legs = new ArrayList<>();
        TreeSet<String> confirmed = new TreeSet<>();

        Order copy() {
            Order o = new Order();
            o.sender = sender;
            o.reference = reference;
            o.priority = priority;
            o.came = came;
            o.queued = queued;
            o.legs = legs;
            o.confirmed = new TreeSet<>(confirmed);
            return o;
        }
    }

    /** All that the power can put back. */
    static final class State {
        int day;
        int tick;
        int clock;
        List<String> participants = new ArrayList<>();
        List<String> assets = new ArrayList<>();
        Map<String, String[]> terms = new TreeMap<>();
        Map<String, BigInteger> positions = new TreeMap<>();
        Map<String, BigInteger> pledged = new TreeMap<>();
        Map<String, BigInteger> limits = new TreeMap<>();
        Map<String, BigInteger> paid = new TreeMap<>();
        Map<String, String> sent = new LinkedHashMap<>();
        List<Order> orders = new ArrayList<>();
        Map<String, BigInteger> began = new TreeMap<>();
        Map<String, BigInteger> went = new TreeMap<>();
        Map<String, BigInteger> came = new TreeMap<>();
        Map<String, BigInteger> moves = new TreeMap<>();

        State copy() {
            State s = new State();
            s.day = day;
            s.tick = tick;
            s.clock = clock;
            s.participants.addAll(participants);
            s.assets.addAll(assets);
            s.terms.putAll(terms);
            s.positions.putAll(positions);
            s.pledged.putAll(pledged);
            s.limits.putAll(limits);
            s.paid.putAll(paid);
            s.sent.putAll(sent);
            for (Order o : orders) {
                s.orders.add(o.copy());
            }
            s.began.putAll(began);
            s.went.putAll(went);
            s.came.putAll(came);
            s.moves.putAll(moves);
            return s;
        }
    }

    private static final BigInteger ZERO = BigInteger.ZERO;
    private static final BigInteger MOST = new BigInteger("4000000000000000000");

    private State s = new State();
    private String tape = "";
    private String answer = "";
    private StringBuilder lines = new StringBuilder();
    private boolean up = true;
    private int left = Integer.MAX_VALUE;
    private boolean charged = false;
    private int written = 0;
    private int journal = 0;

    PlainHouse() {
        s.participants.add("CBNK");
    }

    // ---- the face

    boolean feed(String twenty) {
        if (tape.length() == 400) {
            return false;
        }
        tape += twenty;
        return true;
    }

    int send(int n) {
        if (!up || n < 1 || n > tape.length()) {
            return 0;
        }
        String text = tape.substring(0, n);
        tape = "";
        State before = s.copy();
        lines = new StringBuilder();
        String head = handle(text);
        boolean record = head.startsWith("OK") && !head.equals("OK AGAIN") && !text.startsWith("STM");
        if (record && !write(n + 4)) {
            s = before;
            answer = "";
            return 2;
        }
        answer = head + "\n" + lines;
        return 1;
    }

    int tick(int n) {
        if (!up || n < 1 || n > 1000) {
            return 0;
        }
        State before = s.copy();
        lines = new StringBuilder();
        int day = s.day;
        for (int i = 0; i < n; i++) {
            oneTick();
        }
        if (!write(8)) {
            s = before;
            answer = "";
            return 2;
        }
        if (s.day != day) {
            int blocks = (snapshot() + 499) / 500 + 1;
            for (int i = 0; i < blocks; i++) {
                if (!block()) {
                    answer = "";
                    return 2;
                }
            }
            journal = 0;
        }
        answer = lines.toString();
        return 1;
    }

    long fetch() {
        int many = Math.min(7, answer.length());
        byte[] word = new byte[8];
        word[0] = (byte) many;
        for (int i = 0; i < many; i++) {
            word[1 + i] = (byte) answer.charAt(i);
        }
        answer = answer.substring(many);
        return new BigInteger(word).longValue();
    }

    boolean charge(int n) {
        if (n < 0 || n > 9999) {
            return false;
        }
        charged = true;
        left = n;
        return true;
    }

    int start() {
        if (up) {
            return 0;
        }
        up = true;
        return block() ? 1 : 2;
    }

    long position(int p, int a) {
        if (!up || p < 0 || a < 0 || p >= s.participants.size() || a >= s.assets.size()) {
            return 0;
        }
        return of(s.positions, s.participants.get(p) + s.assets.get(a)).longValueExact();
    }

    int count(int what) {
        if (what < 0 || what > 9) {
            return -1;
        }
        if (what == 7) {
            return tape.length();
        }
        if (what == 9) {
            return written;
        }
        if (!up) {
            return 0;
        }
        int queued = queue().size();
        return new int[] {1, s.day, s.tick, s.participants.size(), s.assets.size(), queued, s.orders.size() - queued, 0,
            (journal + 499) / 500}[what];
    }

    /** For who makes up messages: sender and reference of all that are queued, or that are to be confirmed. */
    List<String> waiting(boolean queued) {
        List<String> names = new ArrayList<>();
        for (Order o : s.orders) {
            if (o.queued == queued) {
                names.add(o.sender + o.reference);
            }
        }
        return names;
    }

    /** For who makes up messages: how much more can be pledged. */
    long free(String p, String asset) {
        return of(s.positions, p + asset).subtract(of(s.pledged, p + asset)).longValueExact();
    }

    // ---- the disk

    private boolean block() {
        if (charged && left == 0) {
            up = false;
            charged = false;
            answer = "";
            return false;
        }
        left--;
        written++;
        return true;
    }

    private boolean write(int bytes) {
        TreeSet<Integer> blocks = new TreeSet<>();
        for (int i = 0; i < bytes; i++) {
            blocks.add((journal + i) / 500);
        }
        for (int i = 0; i < blocks.size(); i++) {
            if (!block()) {
                return false;
            }
        }
        journal += bytes;
        return true;
    }

    private int snapshot() {
        int bytes = 20 + 4 * s.participants.size() + 14 * s.assets.size() + 12 * s.limits.size();
        for (BigInteger n : s.positions.values()) {
            bytes += n.signum() != 0 ? 12 : 0;
        }
        for (BigInteger n : s.pledged.values()) {
            bytes += n.signum() != 0 ? 12 : 0;
        }
        return bytes;
    }

    // ---- the day

    private void oneTick() {
        s.tick++;
        if (s.tick == 1000) {
            s.tick = 0;
            s.day++;
            s.sent.clear();
            s.paid.clear();
            s.went.clear();
            s.came.clear();
            s.moves.clear();
            s.began = new TreeMap<>(s.positions);
        }
        if (s.tick >= 150 && s.tick <= 900 && s.tick % 50 == 0) {
            resolve();
            settle();
        }
        if (s.tick == 900) {
            List<Order> back = queue();
            for (Order o : s.orders) {
                if (!o.queued) {
                    back.add(o);
                }
            }
            for (Order o : back) {
                lines.append("B").append(o.sender).append(o.reference).append("\n");
            }
            s.orders.clear();
        }
    }

    // ---- messages

    private static String fields(String kind) {
        String p = "([0-9A-Z]{4})";
        String a = "([0-9A-Z]{3})";
        String v = "([0-9]{15})";
        String r = "([0-9A-Z]{8})";
        switch (kind) {
            case "NEW": return p;
            case "AST": return a + "(?:(C)(0{15})(00)|(S)([0-9]{15})([0-9]{2}))";
            case "PRC": return a + v + "([0-9]{2})";
            case "ISS":
            case "RED": return a + p + v;
            case "PAY": return "([1-9])([1-4])((?:[0-9A-Z]{11}[0-9]{15}){1,4})";
            case "CNF": return p + r;
            case "CAN": return r;
            case "PRI": return r + "([1-9])";
            case "LIM": return p + v;
            case "UNL": return p;
            case "PLG":
            case "UNP": return a + v;
            case "RES":
            case "STM": return "";
            default: return null;
        }
    }

    private String handle(String text) {
        if (!text.matches("[0-9A-Z]{15,}[0-9]{2}") || Bench.rest(text) != 1 || fields(text.substring(0, 3)) == null) {
            return "NO 01";
        }
        String kind = text.substring(0, 3);
        String sender = text.substring(3, 7);
        String reference = text.substring(7, 15);
        java.util.regex.Matcher m = java.util.regex.Pattern.compile(fields(kind)).matcher(text.substring(15, text.length() - 2));
        if (!m.matches() || kind.equals("PAY") && m.group(3).length() != 26 * Integer.parseInt(m.group(2))) {
            return "NO 01";
        }
        List<String> f = new ArrayList<>();
        for (int i = 1; i <= m.groupCount(); i++) {
            if (m.group(i) != null) {
                f.add(m.group(i));
            }
        }
        if (!s.participants.contains(sender)) {
            return "NO 02";
        }
        if (List.of("NEW", "AST", "PRC", "ISS", "RED", "RES").contains(kind) && !sender.equals("CBNK")) {
            return "NO 03";
        }
        String missing = missing(kind, f);
        if (missing != null) {
            return missing;
        }
        boolean named = !kind.equals("RES") && !kind.equals("STM");
        if (named && s.sent.containsKey(sender + reference)) {
            return s.sent.get(sender + reference).equals(text) ? "OK AGAIN" : "NO 06";
        }
        if (outOfPhase(kind, f)) {
            return "NO 07";
        }
        String head = act(kind, sender, reference, f);
        if (named && head.startsWith("OK")) {
            s.sent.put(sender + reference, text);
        }
        return head;
    }

    private static List<String[]> legs(String row) {
        List<String[]> legs = new ArrayList<>();
        for (int i = 0; i < row.length(); i += 26) {
            legs.add(new String[] {row.substring(i, i + 4), row.substring(i + 4, i + 8), row.substring(i + 8, i + 11),
                row.substring(i + 11, i + 26)});
        }
        return legs;
    }

    private String missing(String kind, List<String> f) {
        List<String> codes = new ArrayList<>();
        switch (kind) {
            case "PAY":
                for (String[] leg : legs(f.get(2))) {
                    codes.addAll(List.of(leg[0], leg[1], leg[2]));
                }
                break;
            case "ISS":
            case "RED":
                codes.add(f.get(0));
                codes.add(f.get(1));
                break;
            case "PRC":
            case "CNF":
            case "LIM":
            case "UNL":
            case "PLG":
            case "UNP":
                codes.add(f.get(0));
                break;
            default:
        }
        for (String code : codes) {
            if (code.length() == 4 && !s.participants.contains(code)) {
                return "NO 04";
            }
            if (code.length() == 3 && !s.assets.contains(code)) {
                return "NO 05";
            }
        }
        return null;
    }

    private boolean outOfPhase(String kind, List<String> f) {
        int t = s.tick;
        if (t < 100) {
            return List.of("PAY", "CNF", "ISS", "RED", "RES").contains(kind);
        }
        if (t >= 900) {
            return List.of("PAY", "CNF", "CAN", "PRI", "ISS", "RED", "RES").contains(kind);
        }
        if (!kind.equals("PAY") || t < 700) {
            return false;
        }
        if (t < 800) {
            return Integer.parseInt(f.get(0)) > 4;
        }
        for (String[] leg : legs(f.get(2))) {
            if (!leg[2].equals(firstCurrency())) {
                return true;
            }
        }
        return false;
    }

    private String act(String kind, String sender, String reference, List<String> f) {
        boolean bank = sender.equals("CBNK");
        switch (kind) {
            case "NEW": return actNew(f.get(0));
            case "AST": return actAsset(f);
            case "PRC": return actPrice(f.get(0), f.get(1), f.get(2));
            case "ISS": return actIssue(f.get(0), f.get(1), new BigInteger(f.get(2)));
            case "RED": return actRedeem(f.get(0), f.get(1), new BigInteger(f.get(2)));
            case "PAY": return actPay(sender, reference, f);
            case "CNF": return actConfirm(sender, find(f.get(0), f.get(1)));
            case "CAN": return actCancel(find(sender, f.get(0)));
            case "PRI": return actPriority(find(sender, f.get(0)), Integer.parseInt(f.get(1)));
            case "LIM": return actLimit(sender, f.get(0), new BigInteger(f.get(1)));
            case "UNL": return s.limits.remove(sender + f.get(0)) == null ? "NO 08" : settled("OK");
            case "PLG": return bank ? "NO 08" : actPledge(sender, f.get(0), new BigInteger(f.get(1)));
            case "UNP": return bank ? "NO 08" : actUnpledge(sender, f.get(0), new BigInteger(f.get(1)));
            case "RES":
                resolve();
                return settled("OK");
            default:
                statement(sender);
                return "OK";
        }
    }

    private String settled(String head) {
        settle();
        return head;
    }

    private String actNew(String code) {
        if (s.participants.contains(code)) {
            return "NO 08";
        }
        if (s.participants.size() > 255) {
            return "NO 12";
        }
        s.participants.add(code);
        return "OK";
    }

    private String actAsset(List<String> f) {
        if (s.assets.contains(f.get(0))) {
            return "NO 08";
        }
        if (s.assets.size() == 64) {
            return "NO 12";
        }
        s.assets.add(f.get(0));
        s.terms.put(f.get(0), new String[] {f.get(1), f.get(2), f.get(3)});
        return "OK";
    }

    private String actPrice(String asset, String price, String haircut) {
        if (!security(asset)) {
            return "NO 08";
        }
        String[] before = s.terms.put(asset, new String[] {"S", price, haircut});
        String fault = creditFault();
        if (fault != null) {
            s.terms.put(asset, before);
            return fault;
        }
        return settled("OK");
    }

    /** Of what there is now. */
    private String creditFault() {
        BigInteger all = ZERO;
        boolean below = false;
        for (String p : s.participants) {
            all = all.add(credit(p));
            below = below || !p.equals("CBNK") && firstCurrency() != null
                && of(s.positions, p + firstCurrency()).compareTo(credit(p).negate()) < 0;
        }
        return below ? "NO 09" : all.compareTo(MOST) > 0 ? "NO 10" : null;
    }

    private String actIssue(String asset, String to, BigInteger n) {
        if (to.equals("CBNK") || n.signum() == 0) {
            return "NO 08";
        }
        if (of(s.positions, "CBNK" + asset).subtract(n).compareTo(MOST.negate()) < 0) {
            return "NO 10";
        }
        move("CBNK", asset, n.negate());
        move(to, asset, n);
        return settled("OK");
    }

    private String actRedeem(String asset, String from, BigInteger n) {
        if (from.equals("CBNK") || n.signum() == 0) {
            return "NO 08";
        }
        if (of(s.positions, from + asset).subtract(n).compareTo(floor(from + asset)) < 0) {
            return "NO 09";
        }
        move(from, asset, n.negate());
        move("CBNK", asset, n);
        return settled("OK");
    }

    private String actPay(String sender, String reference, List<String> f) {
        Order o = new Order();
        o.sender = sender;
        o.reference = reference;
        o.priority = Integer.parseInt(f.get(0));
        o.legs = legs(f.get(2));
        o.confirmed.add(sender);
        o.came = s.clock++;
        for (String[] leg : o.legs) {
            if (leg[0].equals("CBNK") || leg[1].equals("CBNK") || leg[0].equals(leg[1]) || new BigInteger(leg[3]).signum() == 0) {
                return "NO 08";
            }
        }
        if (s.orders.size() == 250) {
            return "NO 12";
        }
        s.orders.add(o);
        return queueOrAsk(o);
    }

    private String queueOrAsk(Order o) {
        for (String[] leg : o.legs) {
            if (!o.confirmed.contains(leg[0])) {
                return "OK CONF";
            }
        }
        o.queued = true;
        o.came = s.clock++;
        settle();
        return s.orders.contains(o) ? "OK WAIT" : "OK DONE";
    }

    private String actConfirm(String sender, Order o) {
        if (o == null) {
            return "NO 11";
        }
        boolean pays = false;
        for (String[] leg : o.legs) {
            pays = pays || leg[0].equals(sender);
        }
        if (!pays || o.confirmed.contains(sender)) {
            return "NO 08";
        }
        o.confirmed.add(sender);
        return queueOrAsk(o);
    }

    private String actCancel(Order o) {
        if (o == null) {
            return "NO 11";
        }
        s.orders.remove(o);
        return settled("OK");
    }

    private String actPriority(Order o, int priority) {
        if (o == null) {
            return "NO 11";
        }
        o.priority = priority;
        if (o.queued) {
            o.came = s.clock++;
        }
        return settled("OK");
    }

    private String actLimit(String p, String q, BigInteger n) {
        if (p.equals("CBNK") || q.equals("CBNK") || p.equals(q)) {
            return "NO 08";
        }
        if (of(s.paid, p + q).subtract(of(s.paid, q + p)).compareTo(n) > 0) {
            return "NO 09";
        }
        if (!s.limits.containsKey(p + q) && s.limits.size() == 2000) {
            return "NO 12";
        }
        s.limits.put(p + q, n);
        return settled("OK");
    }

    private String actPledge(String p, String asset, BigInteger n) {
        if (!security(asset) || n.signum() == 0) {
            return "NO 08";
        }
        BigInteger before = of(s.pledged, p + asset);
        if (before.add(n).compareTo(of(s.positions, p + asset)) > 0) {
            return "NO 09";
        }
        s.pledged.put(p + asset, before.add(n));
        String fault = creditFault();
        if (fault != null) {
            s.pledged.put(p + asset, before);
            return fault;
        }
        return settled("OK");
    }

    private String actUnpledge(String p, String asset, BigInteger n) {
        BigInteger before = of(s.pledged, p + asset);
        if (!security(asset) || n.signum() == 0 || n.compareTo(before) > 0) {
            return "NO 08";
        }
        s.pledged.put(p + asset, before.subtract(n));
        String fault = creditFault();
        if (fault != null) {
            s.pledged.put(p + asset, before);
            return fault;
        }
        return settled("OK");
    }

    private void statement(String p) {
        for (String asset : s.assets) {
            String key = p + asset;
            if (of(s.began, key).signum() != 0 || of(s.moves, key).signum() != 0) {
                lines.append(asset).append(" ").append(of(s.began, key)).append(" ").append(of(s.went, key)).append(" ")
                    .append(of(s.came, key)).append(" ").append(of(s.positions, key)).append(" ").append(of(s.moves, key)).append("\n");
            }
        }
    }

    // ---- positions

    private static BigInteger of(Map<String, BigInteger> map, String key) {
        return map.getOrDefault(key, ZERO);
    }

    private boolean security(String asset) {
        return s.terms.get(asset)[0].equals("S");
    }

    private String firstCurrency() {
        for (String asset : s.assets) {
            if (!security(asset)) {
                return asset;
            }
        }
        return null;
    }

    private BigInteger credit(String p) {
        BigInteger sum = ZERO;
        for (String asset : s.assets) {
            BigInteger rate = new BigInteger(s.terms.get(asset)[1]).multiply(BigInteger.valueOf(100 - Integer.parseInt(s.terms.get(asset)[2])));
            sum = sum.add(of(s.pledged, p + asset).multiply(rate).divide(BigInteger.valueOf(100)));
        }
        return sum;
    }

    /** A position's name: participant and asset (7 letters), or two participants (8), of whom the first has set a limit. */
    private BigInteger level(String name) {
        if (name.length() == 7) {
            return of(s.positions, name);
        }
        String back = name.substring(4) + name.substring(0, 4);
        return s.limits.get(name).subtract(of(s.paid, name)).add(of(s.paid, back));
    }

    private BigInteger floor(String name) {
        if (name.length() == 8) {
            return ZERO;
        }
        String asset = name.substring(4);
        if (security(asset)) {
            return of(s.pledged, name);
        }
        return asset.equals(firstCurrency()) ? credit(name.substring(0, 4)).negate() : ZERO;
    }

    private void move(String p, String asset, BigInteger n) {
        if (n.signum() == 0) {
            return;
        }
        String key = p + asset;
        s.positions.merge(key, n, BigInteger::add);
        s.moves.merge(key, BigInteger.ONE, BigInteger::add);
        (n.signum() < 0 ? s.went : s.came).merge(key, n.abs(), BigInteger::add);
    }

    // ---- instructions

    private Order find(String sender, String reference) {
        for (Order o : s.orders) {
            if (o.sender.equals(sender) && o.reference.equals(reference)) {
                return o;
            }
        }
        return null;
    }

    private List<Order> queue() {
        List<Order> queue = new ArrayList<>();
        for (Order o : s.orders) {
            if (o.queued) {
                queue.add(o);
            }
        }
        queue.sort((a, b) -> a.priority != b.priority ? a.priority - b.priority : a.came - b.came);
        return queue;
    }

    private Map<String, BigInteger> nets(Order o) {
        Map<String, BigInteger> nets = new TreeMap<>();
        for (String[] leg : o.legs) {
            BigInteger n = new BigInteger(leg[3]);
            nets.merge(leg[0] + leg[2], n.negate(), BigInteger::add);
            nets.merge(leg[1] + leg[2], n, BigInteger::add);
            if (leg[2].equals(firstCurrency())) {
                if (s.limits.containsKey(leg[0] + leg[1])) {
                    nets.merge(leg[0] + leg[1], n.negate(), BigInteger::add);
                }
                if (s.limits.containsKey(leg[1] + leg[0])) {
                    nets.merge(leg[1] + leg[0], n, BigInteger::add);
                }
            }
        }
        return nets;
    }

    private TreeSet<String> taken(Order o) {
        TreeSet<String> taken = new TreeSet<>();
        nets(o).forEach((name, n) -> {
            if (n.signum() < 0) {
                taken.add(name);
            }
        });
        return taken;
    }

    private boolean share(Order a, Order b) {
        TreeSet<String> both = taken(a);
        both.retainAll(taken(b));
        return !both.isEmpty();
    }

    private boolean holds(List<Order> set) {
        Map<String, BigInteger> sum = new TreeMap<>();
        for (Order o : set) {
            nets(o).forEach((name, n) -> sum.merge(name, n, BigInteger::add));
        }
        for (Map.Entry<String, BigInteger> e : sum.entrySet()) {
            if (level(e.getKey()).add(e.getValue()).compareTo(floor(e.getKey())) < 0) {
                return false;
            }
        }
        return true;
    }

    private void complete(Order o) {
        nets(o).forEach((name, n) -> {
            if (name.length() == 7) {
                move(name.substring(0, 4), name.substring(4), n);
            }
        });
        for (String[] leg : o.legs) {
            if (leg[2].equals(firstCurrency())) {
                s.paid.merge(leg[0] + leg[1], new BigInteger(leg[3]), BigInteger::add);
            }
        }
        s.orders.remove(o);
        lines.append("S").append(o.sender).append(o.reference).append("\n");
    }

    private void settle() {
        boolean again = true;
        while (again) {
            again = false;
            List<Order> queue = queue();
            for (int i = 0; i < queue.size() && !again; i++) {
                boolean can = holds(List.of(queue.get(i)));
                for (int j = 0; j < i && can; j++) {
                    can = !share(queue.get(i), queue.get(j));
                }
                if (can) {
                    complete(queue.get(i));
                    again = true;
                }
            }
        }
    }

    /** Every set, the greatest that will do; that no other of its size does is looked at, too. */
    private void resolve() {
        List<Order> queue = queue();
        int n = queue.size();
        if (n > 12) {
            throw new IllegalStateException("too many sets to try");
        }
        int[] needs = new int[n];
        for (int i = 0; i < n; i++) {
            for (int j = 0; j < i; j++) {
                needs[i] |= share(queue.get(i), queue.get(j)) ? 1 << j : 0;
            }
        }
        int union = 0;
        for (int set = 1; set < 1 << n; set++) {
            if ((set | union) != union && closed(set, needs) && holds(members(queue, set))) {
                union |= set;
            }
        }
        if (!closed(union, needs) || !holds(members(queue, union))) {
            throw new IllegalStateException("there is no greatest set");
        }
        for (Order o : members(queue, union)) {
            complete(o);
        }
    }

    private static boolean closed(int set, int[] needs) {
        for (int i = 0; i < needs.length; i++) {
            if ((set >> i & 1) == 1 && (needs[i] & ~set) != 0) {
                return false;
            }
        }
        return true;
    }

    private static List<Order> members(List<Order> queue, int set) {
        List<Order> members = new ArrayList<>();
        for (int i = 0; i < queue.size(); i++) {
            if ((set >> i & 1) == 1) {
                members.add(queue.get(i));
            }
        }
        return members;
    }
}
