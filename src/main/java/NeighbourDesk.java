import java.util.NoSuchElementException;

/** A host that claims an address, asks for those of others and keeps what it learned. */
public final class NeighbourDesk {
    public static final int NONE = -1;
    public static final int ASKED = 1, GOOD = 2, OLD = 3, CHECKED = 4;

    private static final long ALL = (1L << 48) - 1;
    private static final int NO_ADDRESS = 0, EVERY_ADDRESS = -1;
    private static final int UNCLAIMED = 0, PROBES = 1, ANNOUNCES = 2, KEPT = 3;
    private static final int ASKS = 1, ANSWERS = 2;
    private static final int HEARD = 0, BAD = 1, CONFLICT = 2;
    private static final int WENT = 0, WAITS = 1, LOST = 2;
    private static final int MOST_ENTRIES = 32, MOST_TICKS_KEPT = 1000, MOST_TICKS_A_CALL = 40;
    private static final int TICKS_BETWEEN_DEFENCES = 10;

    private final int reach;
    private final int age;
    private final Cache cache;
    private final Tape tape = new Tape();
    private final Frames frames = new Frames();
    private final Losses losses = new Losses();
    private long hereNumber = 2;
    private int time = 0;
    private int phase = UNCLAIMED;
    private int own = NO_ADDRESS;
    private int claimedAt = 0;
    private int defendedAt = NONE;

    public NeighbourDesk(int capacity, int reach, int age) {
        this.cache = new Cache(Math.max(1, Math.min(MOST_ENTRIES, capacity)));
        this.reach = Math.max(1, Math.min(MOST_TICKS_KEPT, reach));
        this.age = Math.max(1, Math.min(MOST_TICKS_KEPT, age));
    }

    // ---- the host and its tape ----

    public void here(long hardware) throws IllegalArgumentException, IllegalStateException {
        if (hardware < 1 || hardware >= ALL) {
            throw new IllegalArgumentException();
        }
        if (phase != UNCLAIMED) {
            throw new IllegalStateException();
        }
        hereNumber = hardware;
    }

    public int type(long w, int n) throws IllegalArgumentException, IllegalStateException {
        if (n < 1 || n > 8) {
            throw new IllegalArgumentException();
        }
        if (!tape.hasRoomFor(n)) {
            throw new IllegalStateException();
        }
        tape.append(w, n);
        return tape.length;
    }

    public void pack(int operation, long sender, int senderAddress, long target, int targetAddress) {
        Wire.writePacket(tape.bytes, 0, operation, sender, senderAddress, target, targetAddress);
        tape.length = Wire.PACKET_BYTES;
    }

    public int hear() {
        int answer = isBad() ? BAD : takeIn();
        tape.length = 0;
        return answer;
    }

    public void claim(int address) throws IllegalArgumentException, IllegalStateException {
        if (address == NO_ADDRESS || address == EVERY_ADDRESS) {
            throw new IllegalArgumentException();
        }
        if (phase != UNCLAIMED) {
            throw new IllegalStateException();
        }
        own = address;
        phase = PROBES;
        claimedAt = time;
        defendedAt = NONE;
        probe();
    }

    public boolean release() {
        boolean claimed = phase != UNCLAIMED;
        giveUp();
        return claimed;
    }

    public int send(int address, int number) throws IllegalArgumentException, IllegalStateException {
        // Without a phase OWN is 0, which is refused anyway.
        if (address == NO_ADDRESS || address == EVERY_ADDRESS || address == own) {
            throw new IllegalArgumentException();
        }
        if (phase < ANNOUNCES) {
            throw new IllegalStateException();
        }
        int at = cache.indexOf(address);
        return at < 0 ? sendToStranger(address, number) : sendTo(cache.use(at, time), number);
    }

    public int tick(int n) throws IllegalArgumentException {
        if (n < 0 || n > MOST_TICKS_A_CALL) {
            throw new IllegalArgumentException();
        }
        for (int i = 0; i < n; i++) {
            time++;
            tickOwn();
            tickEntries();
        }
        return time;
    }

    // ---- what can be asked ----

    public int count(int what) throws IllegalArgumentException {
        switch (what) {
            case 0: return phase;
            case 1: return own;
            case 2: return time;
            case 3: return cache.size;
            case 4: return frames.ring.total;
            case 5: return losses.ring.total;
            case 6: return cache.countWaiting();
            case 7: return defendedAt;
            default: throw new IllegalArgumentException();
        }
    }

    public int entry(int i) throws IndexOutOfBoundsException {
        if (i < 0 || i >= cache.size) {
            throw new IndexOutOfBoundsException();
        }
        return cache.row[i].address;
    }

    public int about(int address, int what) throws IllegalArgumentException, NoSuchElementException {
        if (what < 0 || what > 3) {
            throw new IllegalArgumentException();
        }
        int at = cache.indexOf(address);
        if (at < 0) {
            throw new NoSuchElementException();
        }
        Entry entry = cache.row[at];
        switch (what) {
            case 0: return entry.kind;
            case 1: return entry.waiting;
            case 2: return entry.since;
            default: return entry.used;
        }
    }

    public long hardware(int address) throws NoSuchElementException {
        int at = cache.indexOf(address);
        if (at < 0) {
            throw new NoSuchElementException();
        }
        return cache.row[at].number;
    }

    public boolean knows(int address) {
        int at = cache.indexOf(address);
        return at >= 0 && cache.row[at].kind != ASKED;
    }

    public int waits(int address, int i) throws NoSuchElementException, IndexOutOfBoundsException {
        int at = cache.indexOf(address);
        if (at < 0) {
            throw new NoSuchElementException();
        }
        Entry entry = cache.row[at];
        if (i < 0 || i >= entry.waiting) {
            throw new IndexOutOfBoundsException();
        }
        return entry.queue[i];
    }

    public long to(int i) throws IndexOutOfBoundsException {
        if (!frames.ring.holds(i)) {
            throw new IndexOutOfBoundsException();
        }
        return frames.goals[frames.ring.slotOf(i)];
    }

    public int data(int i) throws IndexOutOfBoundsException {
        if (!frames.ring.holds(i)) {
            throw new IndexOutOfBoundsException();
        }
        return frames.numbers[frames.ring.slotOf(i)];
    }

    public int out(int i, int k) throws IndexOutOfBoundsException {
        if (!frames.ring.holds(i) || !frames.isPacket(i) || k < 0 || k >= Wire.PACKET_BYTES) {
            throw new IndexOutOfBoundsException();
        }
        return frames.byteOf(i, k);
    }

    public int lost(int i) throws IndexOutOfBoundsException {
        if (!losses.ring.holds(i)) {
            throw new IndexOutOfBoundsException();
        }
        return losses.numbers[losses.ring.slotOf(i)];
    }

    // ---- a packet that is heard ----

    private boolean isBad() {
        if (tape.length != Wire.PACKET_BYTES || tape.head() != Wire.HEAD) {
            return true;
        }
        int operation = tape.operation();
        if (operation != ASKS && operation != ANSWERS) {
            return true;
        }
        long sender = tape.sender();
        return sender == hereNumber || sender == 0 || sender == ALL;
    }

    private int takeIn() {
        if (isConflict()) {
            meetConflict();
            return CONFLICT;
        }
        int at = cache.indexOf(tape.senderAddress());
        if (at >= 0) {
            learn(cache.row[at], tape.sender());
        }
        if (phase >= ANNOUNCES && tape.targetAddress() == own) {
            takeInForOwn();
        }
        return HEARD;
    }

    private boolean isConflict() {
        if (phase == UNCLAIMED) {
            return false;
        }
        int from = tape.senderAddress();
        boolean rivalProbe = phase == PROBES && tape.operation() == ASKS
                && from == NO_ADDRESS && tape.targetAddress() == own;
        return from == own || rivalProbe;
    }

    private void meetConflict() {
        boolean mayDefend = defendedAt == NONE || time - defendedAt >= TICKS_BETWEEN_DEFENCES;
        if (phase == PROBES || !mayDefend) {
            giveUp();
            return;
        }
        announce();
        defendedAt = time;
    }

    private void learn(Entry entry, long number) {
        entry.number = number;
        entry.become(GOOD, time);
        for (int i = 0; i < entry.waiting; i++) {
            frames.addData(number, entry.queue[i]);
        }
        entry.waiting = 0;
    }

    private void takeInForOwn() {
        int from = tape.senderAddress();
        if (from != NO_ADDRESS && cache.indexOf(from) < 0 && cache.makeRoom()) {
            cache.add(from, tape.sender(), GOOD, time);
        }
        if (tape.operation() == ASKS) {
            frames.addPacket(tape.sender(), ANSWERS, hereNumber, own, tape.sender(), from);
        }
    }

    // ---- sending ----

    private int sendTo(Entry entry, int number) {
        if (entry.kind == ASKED) {
            return putInLine(entry, number);
        }
        frames.addData(entry.number, number);
        if (entry.kind == OLD) {
            request(entry.number, own, entry.address);
            entry.become(CHECKED, time);
        }
        return WENT;
    }

    private int sendToStranger(int address, int number) {
        if (!cache.makeRoom()) {
            losses.add(number);
            return LOST;
        }
        Entry entry = cache.add(address, 0, ASKED, time);
        request(ALL, own, address);
        return putInLine(entry, number);
    }

    private int putInLine(Entry entry, int number) {
        if (entry.waiting >= Entry.MOST_WAITING) {
            losses.add(number);
            return LOST;
        }
        entry.queue[entry.waiting] = number;
        entry.waiting++;
        return WAITS;
    }

    private void request(long goal, int from, int address) {
        frames.addPacket(goal, ASKS, hereNumber, from, 0, address);
    }

    private void probe() {
        request(ALL, NO_ADDRESS, own);
    }

    private void announce() {
        request(ALL, own, own);
    }

    // ---- ticks and what goes ----

    private void tickOwn() {
        int passed = time - claimedAt;
        if (phase == PROBES && (passed == 2 || passed == 4)) {
            probe();
        } else if (phase == PROBES && passed == 6) {
            announce();
            phase = ANNOUNCES;
        } else if (phase == ANNOUNCES && passed == 8) {
            announce();
            phase = KEPT;
        }
    }

    private void tickEntries() {
        int at = 0;
        for (int left = cache.size; left > 0; left--) {
            Entry entry = cache.row[at];
            if (isOver(entry)) {
                loseWaiting(entry);
                cache.remove(at);
            } else {
                tickEntry(entry);
                at++;
            }
        }
    }

    private boolean isOver(Entry entry) {
        int passed = time - entry.since;
        switch (entry.kind) {
            case ASKED: return passed >= 6;
            case CHECKED: return passed >= 3;
            case OLD: return time - entry.used >= age;
            default: return false;
        }
    }

    private void tickEntry(Entry entry) {
        int passed = time - entry.since;
        if (entry.kind == ASKED && (passed == 2 || passed == 4)) {
            request(ALL, own, entry.address);
        } else if (entry.kind == CHECKED) {
            // It goes at the third tick, so both ticks before that one ask again.
            request(entry.number, own, entry.address);
        } else if (entry.kind == GOOD && passed >= reach) {
            entry.become(OLD, time);
        }
    }

    private void giveUp() {
        phase = UNCLAIMED;
        own = NO_ADDRESS;
        for (int i = 0; i < cache.size; i++) {
            loseWaiting(cache.row[i]);
        }
        cache.size = 0;
    }

    private void loseWaiting(Entry entry) {
        for (int i = 0; i < entry.waiting; i++) {
            losses.add(entry.queue[i]);
        }
        entry.waiting = 0;
    }

    /** How a packet lies in a row of bytes. */
    private static final class Wire {
        static final int PACKET_BYTES = 28;
        static final int HEAD_BYTES = 6, OPERATION_BYTES = 2, NUMBER_BYTES = 6, ADDRESS_BYTES = 4;
        static final int OPERATION_AT = 6, SENDER_AT = 8, SENDER_ADDRESS_AT = 14;
        static final int TARGET_AT = 18, TARGET_ADDRESS_AT = 24;
        /** 1 and 2048 of two bytes each, then 6 and 4 of one. */
        static final long HEAD = 0x000108000604L;

        static void writePacket(byte[] row, int at, int operation, long sender, int senderAddress,
                long target, int targetAddress) {
            write(row, at, HEAD_BYTES, HEAD);
            write(row, at + OPERATION_AT, OPERATION_BYTES, operation);
            write(row, at + SENDER_AT, NUMBER_BYTES, sender);
            write(row, at + SENDER_ADDRESS_AT, ADDRESS_BYTES, senderAddress);
            write(row, at + TARGET_AT, NUMBER_BYTES, target);
            write(row, at + TARGET_ADDRESS_AT, ADDRESS_BYTES, targetAddress);
        }

        static void write(byte[] row, int at, int bytes, long value) {
            long rest = value;
            for (int i = bytes - 1; i >= 0; i--) {
                row[at + i] = (byte) rest;
                rest >>= 8;
            }
        }

        static long read(byte[] row, int at, int bytes) {
            long value = 0;
            for (int i = 0; i < bytes; i++) {
                value = (value << 8) | (row[at + i] & 255);
            }
            return value;
        }
    }

    /** The bytes that were typed or packed, until they are heard. */
    private static final class Tape {
        static final int MOST_BYTES = 40;

        final byte[] bytes = new byte[MOST_BYTES];
        int length = 0;

        boolean hasRoomFor(int more) {
            return length + more <= MOST_BYTES;
        }

        void append(long w, int n) {
            for (int i = 0; i < n; i++) {
                bytes[length + i] = (byte) (w >> (8 * i));
            }
            length += n;
        }

        long head() {
            return Wire.read(bytes, 0, Wire.HEAD_BYTES);
        }

        int operation() {
            return (int) Wire.read(bytes, Wire.OPERATION_AT, Wire.OPERATION_BYTES);
        }

        long sender() {
            return Wire.read(bytes, Wire.SENDER_AT, Wire.NUMBER_BYTES);
        }

        int senderAddress() {
            return (int) Wire.read(bytes, Wire.SENDER_ADDRESS_AT, Wire.ADDRESS_BYTES);
        }

        int targetAddress() {
            return (int) Wire.read(bytes, Wire.TARGET_ADDRESS_AT, Wire.ADDRESS_BYTES);
        }
    }

    /** Which slots of a row hold the latest things, when the oldest one is written over. */
    private static final class Ring {
        static final int SLOTS = 100;

        int total = 0;

        int nextSlot() {
            int slot = Math.floorMod(total, SLOTS);
            total++;
            return slot;
        }

        boolean holds(int i) {
            return i >= 0 && i < SLOTS && i < total;
        }

        int slotOf(int i) {
            return Math.floorMod(Math.max(0, total - SLOTS) + i, SLOTS);
        }
    }

    /** The latest frames that went out. */
    private static final class Frames {
        final Ring ring = new Ring();
        final long[] goals = new long[Ring.SLOTS];
        final int[] numbers = new int[Ring.SLOTS];
        // A number may be NONE itself, so it can't tell packets from data.
        final boolean[] packets = new boolean[Ring.SLOTS];
        final byte[] bytes = new byte[Ring.SLOTS * Wire.PACKET_BYTES];

        void addData(long goal, int number) {
            int slot = ring.nextSlot();
            goals[slot] = goal;
            numbers[slot] = number;
            packets[slot] = false;
        }

        void addPacket(long goal, int operation, long sender, int senderAddress,
                long target, int targetAddress) {
            int slot = ring.nextSlot();
            goals[slot] = goal;
            numbers[slot] = NONE;
            packets[slot] = true;
            Wire.writePacket(bytes, slot * Wire.PACKET_BYTES, operation, sender, senderAddress,
                    target, targetAddress);
        }

        boolean isPacket(int i) {
            return packets[ring.slotOf(i)];
        }

        int byteOf(int i, int k) {
            return bytes[ring.slotOf(i) * Wire.PACKET_BYTES + k] & 255;
        }
    }

    /** The latest numbers that were lost. */
    private static final class Losses {
        final Ring ring = new Ring();
        final int[] numbers = new int[Ring.SLOTS];

        void add(int number) {
            numbers[ring.nextSlot()] = number;
        }
    }

    /** What is known of one address. */
    private static final class Entry {
        static final int MOST_WAITING = 4;

        final int[] queue = new int[MOST_WAITING];
        int waiting = 0;
        int address = NO_ADDRESS;
        long number = 0;
        int kind = ASKED;
        int since = 0;
        int used = 0;

        void become(int newKind, int now) {
            kind = newKind;
            since = now;
        }
    }

    /** The entries in the order of use; those behind the first size ones are free to be made. */
    private static final class Cache {
        final Entry[] row;
        int size = 0;

        Cache(int capacity) {
            row = new Entry[capacity];
            for (int i = 0; i < capacity; i++) {
                row[i] = new Entry();
            }
        }

        int indexOf(int address) {
            for (int i = 0; i < size; i++) {
                if (row[i].address == address) {
                    return i;
                }
            }
            return -1;
        }

        int countWaiting() {
            int sum = 0;
            for (int i = 0; i < size; i++) {
                sum += row[i].waiting;
            }
            return sum;
        }

        boolean makeRoom() {
            if (size < row.length) {
                return true;
            }
            for (int i = 0; i < size; i++) {
                if (row[i].kind != ASKED) {
                    remove(i);
                    return true;
                }
            }
            return false;
        }

        /** Only after makeRoom has answered true. */
        Entry add(int address, long number, int kind, int now) {
            Entry entry = row[size];
            size++;
            entry.address = address;
            entry.number = number;
            entry.waiting = 0;
            entry.used = now;
            entry.become(kind, now);
            return entry;
        }

        Entry use(int at, int now) {
            Entry entry = moveToEnd(at);
            entry.used = now;
            return entry;
        }

        void remove(int at) {
            moveToEnd(at);
            size--;
        }

        private Entry moveToEnd(int at) {
            Entry entry = row[at];
            for (int i = at; i < size - 1; i++) {
                row[i] = row[i + 1];
            }
            row[size - 1] = entry;
            return entry;
        }
    }
}
