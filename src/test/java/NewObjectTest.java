import java.lang.reflect.Member;
import java.lang.reflect.Modifier;
import java.util.TreeSet;

/** Promise 1: a new object; and that the class has the document's face and no other. */
public final class NewObjectTest {
    public static void main(String[] args) {
        aNewHouse();
        housesShareNothing();
        theFace();
        Bench.finish();
    }

    private static void aNewHouse() {
        Bench b = new Bench("new");
        int[] want = {1, 0, 0, 1, 0, 0, 0, 0, 0, 0};
        for (int what = 0; what < want.length; what++) {
            b.counts(what, want[what]);
        }
        b.is("fetch()", b.fetch(), 0L);
        b.is("broken()", b.broken(), 0);
        b.is("start()", b.start(), 0);
        b.is("send(1)", b.send(1), 0);
        b.holds(0, 0, 0);
        b.say("STM", "CBNK", "", "OK|");
        b.say("ISS", "CBNK", "EUR" + "CBNK" + Bench.amount(1), "NO 05|");
        b.say("NEW", "CBNK", "CBNK", "NO 08|");
        b.say("PAY", "CBNK", "11" + Bench.leg("CBNK", "CBNK", "EUR", 1), "NO 05|");
    }

    private static void housesShareNothing() {
        Bench one = Bench.open("one of two");
        Bench two = new Bench("two of two");
        one.counts(3, 5);
        two.counts(3, 1);
        two.counts(4, 0);
        two.counts(9, 0);
    }

    private static void theFace() {
        TreeSet<String> face = new TreeSet<>();
        addSeen(face, SettlementHouse.class.getDeclaredMethods());
        addSeen(face, SettlementHouse.class.getDeclaredFields());
        addSeen(face, SettlementHouse.class.getDeclaredConstructors());
        Bench.due("the face", face.toString(),
            "[SettlementHouse, broken, charge, count, feed, fetch, position, send, start, tick]");
        Bench.due("public final", Modifier.toString(SettlementHouse.class.getModifiers()), "public final");
    }

    private static void addSeen(TreeSet<String> face, Member[] members) {
        for (Member m : members) {
            if (!Modifier.isPrivate(m.getModifiers()) && !m.isSynthetic()) {
                face.add(m.getName());
            }
        }
    }
}
