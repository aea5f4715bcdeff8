import java.nio.ByteBuffer;
import java.nio.charset.StandardCharsets;
import java.util.Arrays;

/** The short run that README.md shows; ReadmeTest holds the two together. */
final class Example {
    public static void main(String[] args) {
        SettlementHouse house = new SettlementHouse();
        say(house, "ASTCBNK00000001EURC0000000000000000026");
        say(house, "NEWCBNK00000002AAAA05");
        say(house, "NEWCBNK00000003BBBB30");
        System.out.println("tick(100) = " + house.tick(100));
        say(house, "ISSCBNK00000004EURAAAA00000000000100011");
        say(house, "PAYAAAA0000000151AAAABBBBEUR00000000000040091");
        say(house, "PAYBBBB0000000151BBBBAAAAEUR00000000000090017");
        say(house, "PAYAAAA0000000251AAAABBBBEUR00000000000070027");
        System.out.println("count(5) = " + house.count(5));
        say(house, "RESCBNK0000000503");
        System.out.println("position(2, 0) = " + house.position(2, 0));
        say(house, "STMAAAA0000000361");
        System.out.println("charge(0) = " + house.charge(0));
        System.out.println("tick(1) = " + house.tick(1));
        System.out.println("start() = " + house.start());
        System.out.println("count(2) = " + house.count(2));
    }

    /** Feeds a message, 20 bytes a call, sends it, and prints it with its whole answer. */
    static void say(SettlementHouse house, String message) {
        int length = message.length();
        byte[] bytes = message.getBytes(StandardCharsets.ISO_8859_1);
        ByteBuffer words = ByteBuffer.wrap(Arrays.copyOf(bytes, (length + 19) / 20 * 20));
        while (words.hasRemaining()) {
            house.feed(words.getInt(), words.getInt(), words.getInt(), words.getInt(), words.getInt());
        }
        house.send(length);
        System.out.println(message + " : " + answer(house).trim().replace("\n", ", "));
    }

    /** The highest byte of what fetch() answers says how many bytes of it come behind that. */
    static String answer(SettlementHouse house) {
        StringBuilder text = new StringBuilder();
        for (long word = house.fetch(); word != 0; word = house.fetch()) {
            for (int i = 0; i < word >> 56; i++) {
                text.append((char) (word >> 48 - 8 * i & 255));
            }
        }
        return text.toString();
    }
}
