import java.util.ArrayList;

/** A central bank's house of settlement and its securities depository; ../shared/DOC.md says what it must do. */
public final class SettlementHouse {
    private static final int TAPE_BYTES = 400;
    private static final int FEED_BYTES = 20;
    private static final int MOST_TICKS = 1000;
    private static final int MOST_CHARGE = 9999;
    private static final int TICK_BYTES = 4;

    private static final int REFUSED = 0;
    private static final int ANSWERED = 1;
    private static final int POWER_WENT = 2;

    private final byte[] tape;
    private int taped;
    private final Message message;
    private final Answer answer;
    private final Disk disk;
    private final Books books;
    private final Queue queue;
    private final Desk desk;

    public SettlementHouse() {
        tape = new byte[TAPE_BYTES];
        message = new Message(tape);
        answer = new Answer();
        disk = new Disk();
        books = new Books();
        queue = new Queue();
        desk = new Desk(books, queue);
    }

    public boolean feed(int a, int b, int c, int d, int e) {
        if (taped + FEED_BYTES > TAPE_BYTES) {
            return false;
        }
        putOnTape(a);
        putOnTape(b);
        putOnTape(c);
        putOnTape(d);
        putOnTape(e);
        return true;
    }

    public int send(int n) {
        if (!disk.up || n < 1 || n > taped) {
            return REFUSED;
        }
        answer.clear();
        taped = 0;
        int verdict = message.read(n) ? desk.judge(message) : Desk.NO_MESSAGE;
        if (verdict != Desk.FINE) {
            answer.putVerdict(verdict);
            return ANSWERED;
        }
        // All that can be refused has been judged by now: so the record goes to the disk first, and
        // if the power goes with it there is nothing to undo.
        if (message.kind != Message.STM && !disk.writeRecord(n)) {
            return POWER_WENT;
        }
        desk.carryOut(message, answer);
        return ANSWERED;
    }

    public int tick(int n) {
        if (!disk.up || n < 1 || n > MOST_TICKS) {
            return REFUSED;
        }
        answer.clear();
        if (!disk.writeRecord(TICK_BYTES)) {
            return POWER_WENT;
        }
        boolean dayBegan = desk.letPass(n);
        if (dayBegan && !disk.writeSnapshot(books.snapshotBytes())) {
            queue.forgetTold();
            return POWER_WENT;
        }
        queue.tell(answer);
        return ANSWERED;
    }

    public long fetch() {
        return answer.takeNext();
    }

    public boolean charge(int n) {
        if (n < 0 || n > MOST_CHARGE) {
            return false;
        }
        disk.left = n;
        return true;
    }

    public int start() {
        if (disk.up) {
            return REFUSED;
        }
        if (!disk.writeBlock()) {
            return POWER_WENT;
        }
        disk.up = true;
        return ANSWERED;
    }

    public long position(int p, int a) {
        if (!disk.up || p < 0 || p >= books.participantsSize || a < 0 || a >= books.assetsSize) {
            return 0;
        }
        return books.levelOf(p, a);
    }

    public int count(int what) {
        switch (what) {
            case 0: return disk.up ? 1 : 0;
            case 1: return whileUp(desk.day);
            case 2: return whileUp(desk.tick);
            case 3: return whileUp(books.participantsSize);
            case 4: return whileUp(books.assetsSize);
            case 5: return whileUp(queue.queuedSize);
            case 6: return whileUp(queue.unconfirmedSize);
            case 7: return taped;
            case 8: return whileUp(disk.journalBlocks());
            case 9: return disk.written;
            default: return -1;
        }
    }

    /** Every message is judged before it changes anything, so there is no such moment, and no books of them are kept. */
    public int broken() {
        return 0;
    }

    private int whileUp(int number) {
        return disk.up ? number : 0;
    }

    private void putOnTape(int word) {
        for (int shift = 24; shift >= 0 && taped < TAPE_BYTES; shift -= 8) {
            tape[taped] = (byte) (word >> shift);
            taped++;
        }
    }

    /** The message that is under way: one object reads them all, so that a message costs no memory until it is kept. */
    private static final class Message {
        static final int NEW = 0;
        static final int AST = 1;
        static final int PRC = 2;
        static final int ISS = 3;
        static final int RED = 4;
        static final int PAY = 5;
        static final int CNF = 6;
        static final int CAN = 7;
        static final int PRI = 8;
        static final int LIM = 9;
        static final int UNL = 10;
        static final int PLG = 11;
        static final int UNP = 12;
        static final int RES = 13;
        static final int STM = 14;

        static final int MOST_LEGS = 4;
        static final int CODES_A_LEG = 3;
        static final int PARTICIPANT_BYTES = 4;
        static final int ASSET_BYTES = 3;
        static final int REFERENCE_BYTES = 8;

        private static final String KINDS = "NEWASTPRCISSREDPAYCNFCANPRILIMUNLPLGUNPRESSTM";
        private static final int KIND_BYTES = 3;
        private static final int AMOUNT_BYTES = 15;
        private static final int HAIRCUT_BYTES = 2;
        private static final int CHECK_BYTES = 2;
        private static final int CHECK_DIVISOR = 97;

        private final byte[] bytes;
        private int length;
        private int at;
        private boolean sound;

        int kind;
        int senderCode;
        long reference;
        /** The codes that must be there already, from the left; found gets the places of those that are. */
        final int[] codes = new int[MOST_LEGS * CODES_A_LEG];
        final boolean[] ofAsset = new boolean[MOST_LEGS * CODES_A_LEG];
        final int[] found = new int[MOST_LEGS * CODES_A_LEG];
        int codesSize;
        final long[] amounts = new long[MOST_LEGS];
        int amountsSize;
        int sender;
        int newCode;
        boolean security;
        int haircut;
        int priority;
        long target;

        Message(byte[] tape) {
            bytes = tape;
        }

        /** Whether the first n bytes of the tape are one. */
        boolean read(int n) {
            length = Math.min(n, bytes.length);
            sound = true;
            codesSize = 0;
            amountsSize = 0;
            if (length < KIND_BYTES + CHECK_BYTES || !hasLettersAndDigitsAlone() || !hasRightCheckDigits()) {
                return false;
            }
            kind = readKind();
            senderCode = (int) readCode(PARTICIPANT_BYTES);
            reference = readCode(REFERENCE_BYTES);
            readFields(fieldsOf(kind));
            if (kind == AST && !security && (amounts[0] != 0 || haircut != 0)) {
                return false;
            }
            return kind >= 0 && sound && at == length - CHECK_BYTES;
        }

        boolean isOfBankAlone() {
            return kind == NEW || kind == AST || kind == PRC || kind == ISS || kind == RED || kind == RES;
        }

        boolean takesReference() {
            return kind != RES && kind != STM;
        }

        byte[] copyOfBytes() {
            byte[] copy = new byte[length];
            System.arraycopy(bytes, 0, copy, 0, length);
            return copy;
        }

        boolean hasSameBytes(byte[] others) {
            if (others.length != length) {
                return false;
            }
            for (int i = 0; i < length; i++) {
                if (others[i] != bytes[i]) {
                    return false;
                }
            }
            return true;
        }

        private boolean hasLettersAndDigitsAlone() {
            for (int i = 0; i < length; i++) {
                if (!isDigit(bytes[i]) && (bytes[i] < 'A' || bytes[i] > 'Z')) {
                    return false;
                }
            }
            return true;
        }

        private boolean hasRightCheckDigits() {
            int rest = 0;
            for (int i = 0; i < length; i++) {
                int shift = isDigit(bytes[i]) ? 10 : 100;
                rest = (rest * shift + valueOf(bytes[i])) % CHECK_DIVISOR;
            }
            return rest == 1 && isDigit(bytes[length - 1]) && isDigit(bytes[length - 2]);
        }

        private int readKind() {
            at = KIND_BYTES;
            for (int i = 0; i + KIND_BYTES <= KINDS.length(); i += KIND_BYTES) {
                if (bytes[0] == KINDS.charAt(i) && bytes[1] == KINDS.charAt(i + 1) && bytes[2] == KINDS.charAt(i + 2)) {
                    return i / KIND_BYTES;
                }
            }
            return -1;
        }

        /** The letters are those that readFields knows. */
        private static String fieldsOf(int kind) {
            switch (kind) {
                case NEW: return "n";
                case AST: return "msvh";
                case PRC: return "avh";
                case ISS: return "apv";
                case RED: return "apv";
                case PAY: return "yl";
                case CNF: return "pr";
                case CAN: return "r";
                case PRI: return "ry";
                case LIM: return "pv";
                case UNL: return "p";
                case PLG: return "av";
                case UNP: return "av";
                default: return "";
            }
        }

        private void readFields(String fields) {
            for (int i = 0; i < fields.length() && sound; i++) {
                switch (fields.charAt(i)) {
                    case 'n': newCode = (int) readCode(PARTICIPANT_BYTES); break;
                    case 'm': newCode = (int) readCode(ASSET_BYTES); break;
                    case 's': readSort(); break;
                    case 'p': readKnownCode(false); break;
                    case 'a': readKnownCode(true); break;
                    case 'v': readAmount(); break;
                    case 'h': haircut = (int) readDigits(HAIRCUT_BYTES); break;
                    case 'y': readPriority(); break;
                    case 'r': target = readCode(REFERENCE_BYTES); break;
                    case 'l': readLegs(); break;
                    default: sound = false;
                }
            }
        }

        private void readSort() {
            long sort = readCode(1);
            security = sort == valueOf('S');
            if (!security && sort != valueOf('C')) {
                sound = false;
            }
        }

        private void readKnownCode(boolean asset) {
            if (codesSize >= codes.length) {
                sound = false;
                return;
            }
            codes[codesSize] = (int) readCode(asset ? ASSET_BYTES : PARTICIPANT_BYTES);
            ofAsset[codesSize] = asset;
            codesSize++;
        }

        private void readAmount() {
            if (amountsSize >= amounts.length) {
                sound = false;
                return;
            }
            amounts[amountsSize] = readDigits(AMOUNT_BYTES);
            amountsSize++;
        }

        private void readPriority() {
            priority = (int) readDigits(1);
            if (priority < 1) {
                sound = false;
            }
        }

        private void readLegs() {
            int many = (int) readDigits(1);
            if (many < 1 || many > MOST_LEGS) {
                sound = false;
            }
            for (int i = 0; i < many && sound; i++) {
                readKnownCode(false);
                readKnownCode(false);
                readKnownCode(true);
                readAmount();
            }
        }

        private long readDigits(int many) {
            long number = 0;
            for (int i = 0; i < many; i++) {
                if (at >= length - CHECK_BYTES || !isDigit(bytes[at])) {
                    sound = false;
                    return 0;
                }
                number = number * 10 + valueOf(bytes[at]);
                at++;
            }
            return number;
        }

        /** A code or reference as a number of base 36: one number for each text of that length. */
        private long readCode(int many) {
            long code = 0;
            for (int i = 0; i < many; i++) {
                if (at >= length - CHECK_BYTES) {
                    sound = false;
                    return 0;
                }
                code = code * Answer.CODE_BASE + valueOf(bytes[at]);
                at++;
            }
            return code;
        }

        private static boolean isDigit(int letter) {
            return letter >= '0' && letter <= '9';
        }

        private static int valueOf(int letter) {
            return letter <= '9' ? letter - '0' : letter - 'A' + 10;
        }
    }

    /** What is to be fetched. */
    private static final class Answer {
        static final int CODE_BASE = 36;
        /** More than a statement's lines of 64 assets (91 bytes each at most), or those of 250 instructions, can be. */
        private static final int MOST_BYTES = 6000;
        private static final int BYTES_A_FETCH = 7;
        private static final long HIGHEST_POWER_OF_TEN = 1000000000000000000L;

        private final byte[] bytes = new byte[MOST_BYTES];
        private int size;
        private int taken;

        void clear() {
            size = 0;
            taken = 0;
        }

        long takeNext() {
            int many = Math.min(size - taken, BYTES_A_FETCH);
            if (many <= 0) {
                return 0;
            }
            long word = many;
            for (int i = 0; i < BYTES_A_FETCH; i++) {
                word = word << 8;
                if (i < many) {
                    word = word | (bytes[taken + i] & 255);
                }
            }
            taken += many;
            return word;
        }

        void put(int letter) {
            if (size < MOST_BYTES) {
                bytes[size] = (byte) letter;
                size++;
            }
        }

        void putText(String text) {
            for (int i = 0; i < text.length(); i++) {
                put(text.charAt(i));
            }
        }

        void putLine(String text) {
            putText(text);
            put('\n');
        }

        void putVerdict(int verdict) {
            if (verdict == Desk.AGAIN) {
                putLine("OK AGAIN");
                return;
            }
            putText("NO ");
            put('0' + verdict / 10);
            put('0' + verdict % 10);
            put('\n');
        }

        void putCode(long code, int many) {
            long power = 1;
            for (int i = 1; i < many; i++) {
                power *= CODE_BASE;
            }
            for (int i = 0; i < many && power > 0; i++) {
                int value = (int) (code / power % CODE_BASE);
                put(value < 10 ? '0' + value : 'A' + value - 10);
                power /= CODE_BASE;
            }
        }

        void putNumber(long number) {
            if (number < 0) {
                put('-');
            }
            long value = Math.abs(number);
            boolean begun = false;
            for (long power = HIGHEST_POWER_OF_TEN; power > 0; power /= 10) {
                int digit = (int) (value / power % 10);
                begun = begun || digit != 0 || power == 1;
                if (begun) {
                    put('0' + digit);
                }
            }
        }
    }

    /** The blocks and the power to write them. What was written is never read: the state outlives the power in the object. */
    private static final class Disk {
        private static final int NO_END = -1;
        private static final int BLOCK_BYTES = 500;
        private static final int RECORD_HEAD = 4;

        boolean up = true;
        int left = NO_END;
        int written;
        private int journalBytes;

        boolean writeBlock() {
            if (left == 0) {
                up = false;
                left = NO_END;
                return false;
            }
            if (left > 0) {
                left--;
            }
            written++;
            return true;
        }

        boolean writeRecord(int bytes) {
            int end = journalBytes + RECORD_HEAD + bytes;
            int last = (end - 1) / BLOCK_BYTES;
            for (int block = journalBytes / BLOCK_BYTES; block <= last; block++) {
                if (!writeBlock()) {
                    return false;
                }
            }
            journalBytes = end;
            return true;
        }

        boolean writeSnapshot(int bytes) {
            // One block more makes it count.
            int blocks = blocksOf(bytes) + 1;
            for (int i = 0; i < blocks; i++) {
                if (!writeBlock()) {
                    return false;
                }
            }
            journalBytes = 0;
            return true;
        }

        int journalBlocks() {
            return blocksOf(journalBytes);
        }

        private static int blocksOf(int bytes) {
            return (bytes + BLOCK_BYTES - 1) / BLOCK_BYTES;
        }
    }

    /** An amount with a floor: of a participant in an asset, or the room of one towards another. */
    private static final class Position {
        static final int NOBODY = -1;

        /** Whom a room is towards. */
        final int towards;
        /** Of a room: less what was paid since the day began; so the limit is a floor below 0, and can change alone. */
        long level;
        boolean floored;
        /** In a security this is what is pledged. */
        long floor;
        long atDayBegin;
        long went;
        long came;
        int moves;
        /** Of a look through the queue: the number of the look that has seen somebody take from here. */
        int mark;
        long trial;

        Position(int towards) {
            this.towards = towards;
        }

        void moveBy(long net) {
            if (net == 0) {
                return;
            }
            level += net;
            moves++;
            if (net < 0) {
                went -= net;
            } else {
                came += net;
            }
        }

        boolean canMoveBy(long net) {
            return !floored || level + net >= floor;
        }

        void beginDay() {
            atDayBegin = level;
            went = 0;
            came = 0;
            moves = 0;
        }
    }

    private static final class Asset {
        final int code;
        final boolean security;
        long price;
        int haircut;

        Asset(int code, boolean security, long price, int haircut) {
            this.code = code;
            this.security = security;
            this.price = price;
            this.haircut = haircut;
        }

        /** What credit so much pledged gives; one more than the most that all credits may be stands for all above that. */
        static long worth(long pledged, long price, int haircut) {
            long factor = price * (100 - haircut);
            long whole = factor / 100;
            long part = factor % 100;
            if (whole > 0 && pledged > Books.MOST / whole) {
                return Books.MOST + 1;
            }
            // pledged * part may be too large for a long, so hundreds and what is left of them are taken one by one.
            long worth = pledged * whole + pledged / 100 * part + pledged % 100 * part / 100;
            return worth > Books.MOST ? Books.MOST + 1 : worth;
        }
    }

    private static final class Participant {
        final int code;
        final boolean bank;
        final Position[] accounts = new Position[Books.MOST_ASSETS];
        final ArrayList<Position> rooms = new ArrayList<Position>();
        long credit;

        Participant(int code, boolean bank) {
            this.code = code;
            this.bank = bank;
        }
    }

    /** Who and what there is, and the positions. */
    private static final class Books {
        static final int BANK = 0;
        static final int MOST_PARTICIPANTS = 256;
        static final int MOST_ASSETS = 64;
        static final int MOST_LIMITS = 2000;
        /** Of what the bank gave of an asset, and of all credits. */
        static final long MOST = 4000000000000000000L;
        static final int NONE = -1;

        /** CBNK as a number of base 36. */
        private static final int BANK_CODE = ((12 * 36 + 11) * 36 + 23) * 36 + 20;

        final Participant[] participants = new Participant[MOST_PARTICIPANTS];
        int participantsSize;
        final Asset[] assets = new Asset[MOST_ASSETS];
        int assetsSize;
        int firstCurrency = NONE;
        int limits;
        private long allCredit;

        Books() {
            participants[BANK] = new Participant(BANK_CODE, true);
            participantsSize = 1;
        }

        int findParticipant(int code) {
            for (int i = 0; i < participantsSize; i++) {
                if (participants[i].code == code) {
                    return i;
                }
            }
            return NONE;
        }

        int findAsset(int code) {
            for (int i = 0; i < assetsSize; i++) {
                if (assets[i].code == code) {
                    return i;
                }
            }
            return NONE;
        }

        void addParticipant(int code) {
            if (participantsSize < MOST_PARTICIPANTS) {
                participants[participantsSize] = new Participant(code, false);
                participantsSize++;
            }
        }

        void addAsset(Asset asset) {
            if (assetsSize >= MOST_ASSETS) {
                return;
            }
            assets[assetsSize] = asset;
            if (firstCurrency == NONE && !asset.security) {
                firstCurrency = assetsSize;
            }
            assetsSize++;
        }

        long levelOf(int p, int a) {
            Position account = participants[p].accounts[a];
            return account == null ? 0 : account.level;
        }

        long pledgedOf(int p, int a) {
            Position account = participants[p].accounts[a];
            return account == null || !assets[a].security ? 0 : account.floor;
        }

        Position account(int p, int a) {
            Participant owner = participants[p];
            Position account = owner.accounts[a];
            if (account == null) {
                account = new Position(Position.NOBODY);
                account.floored = !owner.bank;
                account.floor = a == firstCurrency ? -owner.credit : 0;
                owner.accounts[a] = account;
            }
            return account;
        }

        Position findRoom(int p, int towards) {
            ArrayList<Position> rooms = participants[p].rooms;
            for (int i = 0; i < rooms.size(); i++) {
                if (rooms.get(i).towards == towards) {
                    return rooms.get(i);
                }
            }
            return null;
        }

        /** There is one for all who ever paid one another, for a limit may be set behind that; without one it has no floor. */
        Position room(int p, int towards) {
            Position room = findRoom(p, towards);
            if (room == null) {
                room = new Position(towards);
                participants[p].rooms.add(room);
            }
            return room;
        }

        void setLimit(Position room, long limit) {
            if (!room.floored) {
                limits++;
            }
            room.floored = true;
            room.floor = -limit;
        }

        void dropLimit(Position room) {
            if (room.floored) {
                limits--;
            }
            room.floored = false;
        }

        /** From the bank to a participant, or back by an amount below 0. */
        void give(int a, int p, long amount) {
            account(BANK, a).moveBy(-amount);
            account(p, a).moveBy(amount);
        }

        long creditIfPledged(int p, int a, long pledged) {
            Asset asset = assets[a];
            long before = Asset.worth(pledgedOf(p, a), asset.price, asset.haircut);
            return participants[p].credit - before + Asset.worth(pledged, asset.price, asset.haircut);
        }

        long creditIfPriced(int p, int a, long price, int haircut) {
            Asset asset = assets[a];
            long pledged = pledgedOf(p, a);
            long before = Asset.worth(pledged, asset.price, asset.haircut);
            return participants[p].credit - before + Asset.worth(pledged, price, haircut);
        }

        boolean canHaveCredit(int p, long credit) {
            return firstCurrency == NONE || levelOf(p, firstCurrency) >= -credit;
        }

        long allCreditIf(int p, long credit) {
            return allCredit - participants[p].credit + credit;
        }

        long allCreditIfPriced(int a, long price, int haircut) {
            long all = 0;
            for (int p = 0; p < participantsSize; p++) {
                // Cut at each step, so that no sum leaves a long.
                long credit = Math.min(creditIfPriced(p, a, price, haircut), MOST + 1);
                all = Math.min(all + credit, MOST + 1);
            }
            return all;
        }

        void pledge(int p, int a, long pledged) {
            setCredit(p, creditIfPledged(p, a, pledged));
            account(p, a).floor = pledged;
        }

        void setPrice(int a, long price, int haircut) {
            for (int p = 0; p < participantsSize; p++) {
                setCredit(p, creditIfPriced(p, a, price, haircut));
            }
            assets[a].price = price;
            assets[a].haircut = haircut;
        }

        private void setCredit(int p, long credit) {
            allCredit = allCreditIf(p, credit);
            participants[p].credit = credit;
            if (p != BANK && firstCurrency != NONE) {
                account(p, firstCurrency).floor = -credit;
            }
        }

        void beginDay() {
            for (int p = 0; p < participantsSize; p++) {
                Position[] accounts = participants[p].accounts;
                for (int a = 0; a < assetsSize; a++) {
                    if (accounts[a] != null) {
                        accounts[a].beginDay();
                    }
                }
                ArrayList<Position> rooms = participants[p].rooms;
                for (int i = 0; i < rooms.size(); i++) {
                    rooms.get(i).level = 0;
                }
            }
        }

        int snapshotBytes() {
            int amounts = limits;
            for (int p = 0; p < participantsSize; p++) {
                for (int a = 0; a < assetsSize; a++) {
                    amounts += levelOf(p, a) != 0 ? 1 : 0;
                    amounts += pledgedOf(p, a) != 0 ? 1 : 0;
                }
            }
            return 20 + 4 * participantsSize + 14 * assetsSize + 12 * amounts;
        }

        void putStatement(int p, Answer answer) {
            for (int a = 0; a < assetsSize; a++) {
                Position account = participants[p].accounts[a];
                if (account != null && (account.atDayBegin != 0 || account.moves != 0)) {
                    answer.putCode(assets[a].code, Message.ASSET_BYTES);
                    putFigure(account.atDayBegin, answer);
                    putFigure(account.went, answer);
                    putFigure(account.came, answer);
                    putFigure(account.level, answer);
                    putFigure(account.moves, answer);
                    answer.put('\n');
                }
            }
        }

        private static void putFigure(long figure, Answer answer) {
            answer.put(' ');
            answer.putNumber(figure);
        }
    }

    private static final class Instruction {
        static final int UNCONFIRMED = 0;
        static final int QUEUED = 1;
        static final int SETTLED = 2;
        static final int SENT_BACK = 3;

        /** Of two accounts and two rooms a leg. */
        private static final int POSITIONS_A_LEG = 4;

        final int sender;
        final int senderCode;
        final long reference;
        int priority;
        int state = UNCONFIRMED;
        /** Set aside while a set is looked for that can settle at once. */
        boolean chosen;
        private final int[] awaited;
        private int awaitedSize;
        private final Position[] positions;
        private final long[] nets;
        private int size;

        Instruction(Message message, int legs) {
            sender = message.sender;
            senderCode = message.senderCode;
            reference = message.reference;
            priority = message.priority;
            awaited = new int[legs];
            positions = new Position[legs * POSITIONS_A_LEG];
            nets = new long[legs * POSITIONS_A_LEG];
        }

        void awaitUnlessSender(int payer) {
            if (payer != sender && !awaits(payer) && awaitedSize < awaited.length) {
                awaited[awaitedSize] = payer;
                awaitedSize++;
            }
        }

        boolean awaits(int payer) {
            for (int i = 0; i < awaitedSize; i++) {
                if (awaited[i] == payer) {
                    return true;
                }
            }
            return false;
        }

        boolean awaitsNobody() {
            return awaitedSize == 0;
        }

        void confirmBy(int payer) {
            for (int i = 0; i < awaitedSize; i++) {
                if (awaited[i] == payer) {
                    awaitedSize--;
                    awaited[i] = awaited[awaitedSize];
                    return;
                }
            }
        }

        void addToNet(Position position, long amount) {
            for (int i = 0; i < size; i++) {
                if (positions[i] == position) {
                    nets[i] += amount;
                    return;
                }
            }
            if (size < positions.length) {
                positions[size] = position;
                nets[size] = amount;
                size++;
            }
        }

        boolean canSettleBehind(int look) {
            for (int i = 0; i < size; i++) {
                if (takes(i) && (positions[i].mark == look || !positions[i].canMoveBy(nets[i]))) {
                    return false;
                }
            }
            return true;
        }

        void markTaken(int look) {
            for (int i = 0; i < size; i++) {
                if (takes(i)) {
                    positions[i].mark = look;
                }
            }
        }

        boolean takesMarked(int look) {
            for (int i = 0; i < size; i++) {
                if (takes(i) && positions[i].mark == look) {
                    return true;
                }
            }
            return false;
        }

        /** Whether it takes from a position that fell too low on trial, and that no marked one behind it takes from. */
        boolean isLastTooMany(int look) {
            for (int i = 0; i < size; i++) {
                Position position = positions[i];
                if (takes(i) && position.mark != look && position.trial < position.floor) {
                    return true;
                }
            }
            return false;
        }

        void beginTrial() {
            chosen = true;
            for (int i = 0; i < size; i++) {
                positions[i].trial = positions[i].level;
            }
        }

        void joinTrial() {
            for (int i = 0; i < size; i++) {
                positions[i].trial += nets[i];
            }
        }

        void leaveTrial() {
            chosen = false;
            for (int i = 0; i < size; i++) {
                positions[i].trial -= nets[i];
            }
        }

        void doNets() {
            for (int i = 0; i < size; i++) {
                positions[i].moveBy(nets[i]);
            }
        }

        /** A room that nobody has limited is none, so nothing is taken from it. */
        private boolean takes(int i) {
            return nets[i] < 0 && positions[i].floored;
        }
    }

    /** The instructions that are not over, and those that went by the call under way. */
    private static final class Queue {
        static final int MOST = 250;

        private final Instruction[] queued = new Instruction[MOST];
        int queuedSize;
        private final Instruction[] unconfirmed = new Instruction[MOST];
        int unconfirmedSize;
        private final Instruction[] told = new Instruction[MOST];
        private int toldSize;
        private int look;

        boolean isFull() {
            return queuedSize + unconfirmedSize >= MOST;
        }

        Instruction find(int sender, long reference) {
            Instruction one = findIn(queued, queuedSize, sender, reference);
            return one != null ? one : findIn(unconfirmed, unconfirmedSize, sender, reference);
        }

        private static Instruction findIn(Instruction[] row, int size, int sender, long reference) {
            for (int i = 0; i < size; i++) {
                if (row[i].sender == sender && row[i].reference == reference) {
                    return row[i];
                }
            }
            return null;
        }

        /** A new one, or one that was confirmed or has left to come back elsewhere. */
        void come(Instruction one) {
            if (isFull()) {
                return;
            }
            if (!one.awaitsNobody()) {
                unconfirmed[unconfirmedSize] = one;
                unconfirmedSize++;
                return;
            }
            one.state = Instruction.QUEUED;
            int place = queuedSize;
            while (place > 0 && queued[place - 1].priority > one.priority) {
                queued[place] = queued[place - 1];
                place--;
            }
            queued[place] = one;
            queuedSize++;
        }

        void leave(Instruction one) {
            if (one == null) {
                return;
            }
            if (one.state == Instruction.QUEUED) {
                queuedSize = takeOut(queued, queuedSize, one);
            } else if (one.state == Instruction.UNCONFIRMED) {
                unconfirmedSize = takeOut(unconfirmed, unconfirmedSize, one);
            }
        }

        private static int takeOut(Instruction[] row, int size, Instruction one) {
            int kept = 0;
            for (int i = 0; i < size; i++) {
                if (row[i] != one) {
                    row[kept] = row[i];
                    kept++;
                }
            }
            return kept;
        }

        void settleAllThatCan() {
            // Each round but the last makes the queue shorter by one.
            for (int round = 0; round <= MOST; round++) {
                Instruction one = firstThatCanSettle();
                if (one == null) {
                    return;
                }
                settle(one);
            }
        }

        private Instruction firstThatCanSettle() {
            look++;
            for (int i = 0; i < queuedSize; i++) {
                if (queued[i].canSettleBehind(look)) {
                    return queued[i];
                }
                queued[i].markTaken(look);
            }
            return null;
        }

        private void settle(Instruction one) {
            one.doNets();
            leave(one);
            end(one, Instruction.SETTLED);
        }

        private void end(Instruction one, int state) {
            one.state = state;
            if (toldSize < MOST) {
                told[toldSize] = one;
                toldSize++;
            }
        }

        /**
         * From all that are queued those are dropped that are in no set that can settle: of a position that falls too
         * low the last one that takes from it (a set with it would have all that take from it, and no more that give),
         * and all that may not settle without one that was dropped. What is left is the greatest set.
         */
        void resolve() {
            for (int i = 0; i < queuedSize; i++) {
                queued[i].beginTrial();
            }
            for (int i = 0; i < queuedSize; i++) {
                queued[i].joinTrial();
            }
            boolean dropped = true;
            // Each pass but the last drops one at least.
            for (int pass = 0; pass <= MOST && dropped; pass++) {
                dropped = dropTooMany();
                dropFollowers();
            }
            settleChosen();
        }

        private boolean dropTooMany() {
            look++;
            boolean dropped = false;
            for (int i = queuedSize - 1; i >= 0; i--) {
                Instruction one = queued[i];
                if (one.chosen && one.isLastTooMany(look)) {
                    one.leaveTrial();
                    dropped = true;
                } else if (one.chosen) {
                    one.markTaken(look);
                }
            }
            return dropped;
        }

        private void dropFollowers() {
            look++;
            for (int i = 0; i < queuedSize; i++) {
                Instruction one = queued[i];
                if (one.chosen && one.takesMarked(look)) {
                    one.leaveTrial();
                }
                if (!one.chosen) {
                    one.markTaken(look);
                }
            }
        }

        private void settleChosen() {
            int place = 0;
            for (int left = queuedSize; left > 0; left--) {
                if (queued[place].chosen) {
                    settle(queued[place]);
                } else {
                    place++;
                }
            }
        }

        void sendAllBack() {
            for (int i = 0; i < queuedSize; i++) {
                end(queued[i], Instruction.SENT_BACK);
            }
            for (int i = 0; i < unconfirmedSize; i++) {
                end(unconfirmed[i], Instruction.SENT_BACK);
            }
            queuedSize = 0;
            unconfirmedSize = 0;
        }

        void tell(Answer answer) {
            for (int i = 0; i < toldSize; i++) {
                answer.put(told[i].state == Instruction.SETTLED ? 'S' : 'B');
                answer.putCode(told[i].senderCode, Message.PARTICIPANT_BYTES);
                answer.putCode(told[i].reference, Message.REFERENCE_BYTES);
                answer.put('\n');
            }
            toldSize = 0;
        }

        void forgetTold() {
            toldSize = 0;
        }
    }

    /** A message of today that has used its reference up. */
    private static final class Sent {
        final int sender;
        final long reference;
        final byte[] bytes;

        Sent(Message message) {
            sender = message.sender;
            reference = message.reference;
            bytes = message.copyOfBytes();
        }
    }

    /** Judges messages, carries them out, and keeps the day. */
    private static final class Desk {
        static final int AGAIN = -1;
        static final int FINE = 0;
        static final int NO_MESSAGE = 1;
        private static final int NO_SENDER = 2;
        private static final int OF_BANK_ALONE = 3;
        private static final int NO_PARTICIPANT = 4;
        private static final int NO_ASSET = 5;
        private static final int REFERENCE_USED = 6;
        private static final int WRONG_PHASE = 7;
        private static final int CANNOT_BE = 8;
        private static final int BELOW_FLOOR = 9;
        private static final int TOO_LARGE = 10;
        private static final int NO_INSTRUCTION = 11;
        private static final int NO_PLACE = 12;

        private static final int MOST_SENT = 2000;
        private static final int DAY_TICKS = 1000;
        private static final int OPEN_TICK = 100;
        private static final int LATE_TICK = 700;
        private static final int FINAL_TICK = 800;
        private static final int SHUT_TICK = 900;
        private static final int FIRST_RESOLVING_TICK = 150;
        private static final int RESOLVING_TICKS = 50;
        private static final int LAST_LATE_PRIORITY = 4;

        private final Books books;
        private final Queue queue;
        private final ArrayList<Sent> sent = new ArrayList<Sent>();
        int day;
        int tick;

        Desk(Books books, Queue queue) {
            this.books = books;
            this.queue = queue;
        }

        /** FINE, AGAIN or the fault; nothing that can be seen changes. */
        int judge(Message m) {
            m.sender = books.findParticipant(m.senderCode);
            if (m.sender == Books.NONE) {
                return NO_SENDER;
            }
            if (m.isOfBankAlone() && m.sender != Books.BANK) {
                return OF_BANK_ALONE;
            }
            int missing = findCodes(m);
            if (missing != FINE) {
                return missing;
            }
            if (m.takesReference()) {
                Sent earlier = findSent(m);
                if (earlier != null) {
                    return m.hasSameBytes(earlier.bytes) ? AGAIN : REFERENCE_USED;
                }
            }
            if (!isInPhase(m)) {
                return WRONG_PHASE;
            }
            if (m.takesReference() && sent.size() >= MOST_SENT) {
                return NO_PLACE;
            }
            return judgeMatter(m);
        }

        private int findCodes(Message m) {
            for (int i = 0; i < m.codesSize; i++) {
                m.found[i] = m.ofAsset[i] ? books.findAsset(m.codes[i]) : books.findParticipant(m.codes[i]);
                if (m.found[i] == Books.NONE) {
                    return m.ofAsset[i] ? NO_ASSET : NO_PARTICIPANT;
                }
            }
            return FINE;
        }

        private Sent findSent(Message m) {
            for (int i = 0; i < sent.size(); i++) {
                Sent one = sent.get(i);
                if (one.sender == m.sender && one.reference == m.reference) {
                    return one;
                }
            }
            return null;
        }

        private boolean isInPhase(Message m) {
            boolean early = tick < OPEN_TICK;
            boolean shut = tick >= SHUT_TICK;
            switch (m.kind) {
                case Message.PAY: return !early && !shut && isPayInPhase(m);
                case Message.CNF:
                case Message.ISS:
                case Message.RED:
                case Message.RES: return !early && !shut;
                case Message.CAN:
                case Message.PRI: return !shut;
                default: return true;
            }
        }

        private boolean isPayInPhase(Message m) {
            if (tick >= FINAL_TICK) {
                return isInFirstCurrencyAlone(m);
            }
            return tick < LATE_TICK || m.priority <= LAST_LATE_PRIORITY;
        }

        private boolean isInFirstCurrencyAlone(Message m) {
            for (int leg = 0; leg < m.amountsSize; leg++) {
                if (m.found[leg * Message.CODES_A_LEG + 2] != books.firstCurrency) {
                    return false;
                }
            }
            return true;
        }

        private int judgeMatter(Message m) {
            switch (m.kind) {
                case Message.NEW: return judgeNew(m);
                case Message.AST: return judgeAsset(m);
                case Message.PRC: return judgePrice(m);
                case Message.ISS: return judgeIssue(m);
                case Message.RED: return judgeRedemption(m);
                case Message.PAY: return judgePay(m);
                case Message.CNF: return judgeConfirmation(m);
                case Message.CAN:
                case Message.PRI: return queue.find(m.sender, m.target) == null ? NO_INSTRUCTION : FINE;
                case Message.LIM: return judgeLimit(m);
                case Message.UNL: return judgeUnlimit(m);
                case Message.PLG: return judgePledge(m);
                case Message.UNP: return judgeUnpledge(m);
                default: return FINE;
            }
        }

        private int judgeNew(Message m) {
            if (books.findParticipant(m.newCode) != Books.NONE) {
                return CANNOT_BE;
            }
            return books.participantsSize < Books.MOST_PARTICIPANTS ? FINE : NO_PLACE;
        }

        private int judgeAsset(Message m) {
            if (books.findAsset(m.newCode) != Books.NONE) {
                return CANNOT_BE;
            }
            return books.assetsSize < Books.MOST_ASSETS ? FINE : NO_PLACE;
        }

        private int judgePrice(Message m) {
            int asset = m.found[0];
            long price = m.amounts[0];
            if (!books.assets[asset].security) {
                return CANNOT_BE;
            }
            for (int p = 0; p < books.participantsSize; p++) {
                if (p != Books.BANK && !books.canHaveCredit(p, books.creditIfPriced(p, asset, price, m.haircut))) {
                    return BELOW_FLOOR;
                }
            }
            return books.allCreditIfPriced(asset, price, m.haircut) > Books.MOST ? TOO_LARGE : FINE;
        }

        private int judgeIssue(Message m) {
            if (m.found[1] == Books.BANK || m.amounts[0] == 0) {
                return CANNOT_BE;
            }
            return books.levelOf(Books.BANK, m.found[0]) - m.amounts[0] < -Books.MOST ? TOO_LARGE : FINE;
        }

        private int judgeRedemption(Message m) {
            if (m.found[1] == Books.BANK || m.amounts[0] == 0) {
                return CANNOT_BE;
            }
            return books.account(m.found[1], m.found[0]).canMoveBy(-m.amounts[0]) ? FINE : BELOW_FLOOR;
        }

        private int judgePay(Message m) {
            for (int leg = 0; leg < m.amountsSize; leg++) {
                int from = m.found[leg * Message.CODES_A_LEG];
                int to = m.found[leg * Message.CODES_A_LEG + 1];
                if (from == Books.BANK || to == Books.BANK || from == to || m.amounts[leg] == 0) {
                    return CANNOT_BE;
                }
            }
            return queue.isFull() ? NO_PLACE : FINE;
        }

        private int judgeConfirmation(Message m) {
            Instruction one = queue.find(m.found[0], m.target);
            if (one == null) {
                return NO_INSTRUCTION;
            }
            return one.awaits(m.sender) ? FINE : CANNOT_BE;
        }

        private int judgeLimit(Message m) {
            int towards = m.found[0];
            if (m.sender == Books.BANK || towards == Books.BANK || towards == m.sender) {
                return CANNOT_BE;
            }
            Position room = books.findRoom(m.sender, towards);
            if (room != null && room.level < -m.amounts[0]) {
                return BELOW_FLOOR;
            }
            boolean replaced = room != null && room.floored;
            return replaced || books.limits < Books.MOST_LIMITS ? FINE : NO_PLACE;
        }

        private int judgeUnlimit(Message m) {
            Position room = books.findRoom(m.sender, m.found[0]);
            return room != null && room.floored ? FINE : CANNOT_BE;
        }

        private boolean canBePledged(Message m) {
            return m.sender != Books.BANK && books.assets[m.found[0]].security && m.amounts[0] != 0;
        }

        private int judgePledge(Message m) {
            if (!canBePledged(m)) {
                return CANNOT_BE;
            }
            long pledged = books.pledgedOf(m.sender, m.found[0]) + m.amounts[0];
            if (pledged > books.levelOf(m.sender, m.found[0])) {
                return BELOW_FLOOR;
            }
            long credit = books.creditIfPledged(m.sender, m.found[0], pledged);
            return books.allCreditIf(m.sender, credit) > Books.MOST ? TOO_LARGE : FINE;
        }

        private int judgeUnpledge(Message m) {
            if (!canBePledged(m)) {
                return CANNOT_BE;
            }
            long pledged = books.pledgedOf(m.sender, m.found[0]) - m.amounts[0];
            if (pledged < 0) {
                return CANNOT_BE;
            }
            long credit = books.creditIfPledged(m.sender, m.found[0], pledged);
            return books.canHaveCredit(m.sender, credit) ? FINE : BELOW_FLOOR;
        }

        /** Of a message that was judged FINE. */
        void carryOut(Message m, Answer answer) {
            if (m.kind == Message.STM) {
                answer.putLine("OK");
                books.putStatement(m.sender, answer);
                return;
            }
            if (m.takesReference()) {
                sent.add(new Sent(m));
            }
            Instruction one = null;
            if (m.kind == Message.PAY) {
                one = pay(m);
            } else if (m.kind == Message.CNF) {
                one = confirm(m);
            } else {
                change(m);
            }
            queue.settleAllThatCan();
            answer.putLine(one == null ? "OK" : okOf(one));
            queue.tell(answer);
        }

        private static String okOf(Instruction one) {
            if (one.state == Instruction.SETTLED) {
                return "OK DONE";
            }
            return one.state == Instruction.QUEUED ? "OK WAIT" : "OK CONF";
        }

        private void change(Message m) {
            switch (m.kind) {
                case Message.NEW: books.addParticipant(m.newCode); break;
                case Message.AST: books.addAsset(new Asset(m.newCode, m.security, m.amounts[0], m.haircut)); break;
                case Message.PRC: books.setPrice(m.found[0], m.amounts[0], m.haircut); break;
                case Message.ISS: books.give(m.found[0], m.found[1], m.amounts[0]); break;
                case Message.RED: books.give(m.found[0], m.found[1], -m.amounts[0]); break;
                case Message.CAN: queue.leave(queue.find(m.sender, m.target)); break;
                case Message.PRI: putBehind(queue.find(m.sender, m.target), m.priority); break;
                case Message.LIM: books.setLimit(books.room(m.sender, m.found[0]), m.amounts[0]); break;
                case Message.UNL: books.dropLimit(books.room(m.sender, m.found[0])); break;
                case Message.PLG: pledgeMore(m, m.amounts[0]); break;
                case Message.UNP: pledgeMore(m, -m.amounts[0]); break;
                case Message.RES: queue.resolve(); break;
                default: break;
            }
        }

        private void pledgeMore(Message m, long amount) {
            books.pledge(m.sender, m.found[0], books.pledgedOf(m.sender, m.found[0]) + amount);
        }

        private Instruction pay(Message m) {
            Instruction one = new Instruction(m, m.amountsSize);
            for (int leg = 0; leg < m.amountsSize; leg++) {
                addLeg(one, m, leg);
            }
            queue.come(one);
            return one;
        }

        private void addLeg(Instruction one, Message m, int leg) {
            int from = m.found[leg * Message.CODES_A_LEG];
            int to = m.found[leg * Message.CODES_A_LEG + 1];
            int asset = m.found[leg * Message.CODES_A_LEG + 2];
            long amount = m.amounts[leg];
            one.awaitUnlessSender(from);
            one.addToNet(books.account(from, asset), -amount);
            one.addToNet(books.account(to, asset), amount);
            if (asset == books.firstCurrency) {
                one.addToNet(books.room(from, to), -amount);
                one.addToNet(books.room(to, from), amount);
            }
        }

        private Instruction confirm(Message m) {
            Instruction one = queue.find(m.found[0], m.target);
            if (one == null) {
                return null;
            }
            one.confirmBy(m.sender);
            if (one.awaitsNobody()) {
                queue.leave(one);
                queue.come(one);
            }
            return one;
        }

        private void putBehind(Instruction one, int priority) {
            if (one == null) {
                return;
            }
            one.priority = priority;
            if (one.state == Instruction.QUEUED) {
                queue.leave(one);
                queue.come(one);
            }
        }

        /** Whether a day began. */
        boolean letPass(int ticks) {
            boolean began = false;
            for (int i = 0; i < ticks; i++) {
                tick++;
                if (tick >= DAY_TICKS) {
                    beginDay();
                    began = true;
                } else if (tick >= FIRST_RESOLVING_TICK && tick <= SHUT_TICK && tick % RESOLVING_TICKS == 0) {
                    queue.resolve();
                    queue.settleAllThatCan();
                }
                if (tick == SHUT_TICK) {
                    queue.sendAllBack();
                }
            }
            return began;
        }

        private void beginDay() {
            tick = 0;
            day++;
            sent.clear();
            books.beginDay();
        }
    }
}
