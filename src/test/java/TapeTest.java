/** Promise 3 (type), promise 4 (pack) and what promise 5 (hear) says of the tape and of bad packets. */
public final class TapeTest {
    private static final Check CHECK = new Check();

    public static void main(String[] args) {
        typeCounts();
        typedPacketIsHeard();
        packed();
        bad();
        CHECK.end();
    }

    private static void typeCounts() {
        NeighbourDesk desk = new NeighbourDesk(4, 5, 6);
        for (int n : new int[] {0, -1, 9, Integer.MIN_VALUE, Integer.MAX_VALUE}) {
            CHECK.refused(desk, "type of " + n, IllegalArgumentException.class, () -> desk.type(0, n));
        }
        int length = 0;
        for (int n = 1; n <= 8; n++) {
            length += n;
            CHECK.same("length", desk.type(-1, n), length);
        }
        CHECK.refused(desk, "41 bytes", IllegalStateException.class, () -> desk.type(0, 5));
        CHECK.refused(desk, "a full tape and 9", IllegalArgumentException.class, () -> desk.type(0, 9));
        CHECK.same("40 bytes", desk.type(0, 4), 40);
        CHECK.refused(desk, "a full tape", IllegalStateException.class, () -> desk.type(0, 1));
        CHECK.same("40 bytes are bad", desk.hear(), 1);
        CHECK.same("the tape is empty then", desk.type(0, 3), 3);
    }

    /** The lowest byte of w comes first: a packet typed by hand is heard as told. */
    private static void typedPacketIsHeard() {
        NeighbourDesk desk = Check.kept(4, 50, 50);
        typePacket(desk);
        CHECK.same("a typed packet", desk.hear(), 0);
        CHECK.same("its entry", Check.entry(desk, 0x80FFFE01), "80fffe01 kind 2 waiting 0 since 8 used 8 at "
                + 0xF1E2D3C4B5A6L);
        CHECK.same("its reply", Check.last(desk),
                Check.duePacket(0xF1E2D3C4B5A6L, 2, 2, Check.OWN, 0xF1E2D3C4B5A6L, 0x80FFFE01));
    }

    private static void typePacket(NeighbourDesk desk) {
        desk.type(0x0100040600080100L, 8);
        desk.type(0x0000A6B5C4D3E2F1L, 6);
        desk.type(0x01FEFF80L, 4);
        desk.type(0, 6);
        desk.type(0x7F0100000AL, 4);
    }

    private static void packed() {
        NeighbourDesk desk = Check.kept(4, 50, 50);
        desk.type(-1, 8);
        desk.pack(0x70001, 0x7777_8123_4567_89abL, 0x90A0B0C0, -1, Check.OWN);
        CHECK.same("29 bytes, so pack made 28", desk.type(0, 1), 29);
        CHECK.same("29 bytes are bad", desk.hear(), 1);
        desk.pack(0x70001, 0x7777_8123_4567_89abL, 0x90A0B0C0, -1, Check.OWN);
        CHECK.same("heard", desk.hear(), 0);
        CHECK.same("the lowest 48 bits", desk.hardware(0x90A0B0C0), 0x8123_4567_89abL);
        CHECK.same("the reply", Check.last(desk),
                Check.duePacket(0x8123_4567_89abL, 2, 2, Check.OWN, 0x8123_4567_89abL, 0x90A0B0C0));
        desk.pack(1, 5, 5, 5, 5);
        desk.pack(1, 9, Check.FRIEND, 0, Check.OWN);
        CHECK.same("the packet before is gone", desk.hear(), 0);
        CHECK.same("the last one counts", desk.knows(Check.FRIEND), true);
        CHECK.same("empty is bad", desk.hear(), 1);
    }

    private static void bad() {
        NeighbourDesk desk = Check.kept(4, 50, 50);
        CHECK.same("nothing", desk.hear(), 1);
        for (int operation : new int[] {0, 3, -1, 256, 257, 0x10000, Integer.MIN_VALUE}) {
            CHECK.same("operation " + operation, Check.hear(desk, operation, 9, Check.OWN, Check.OWN), 1);
        }
        for (long sender : new long[] {0, 2, Check.ALL, -1, 1L << 48, (1L << 48) + 2}) {
            CHECK.same("sender " + sender, Check.hear(desk, 1, sender, Check.OWN, Check.OWN), 1);
        }
        for (int i = 0; i < 6; i++) {
            desk.type(0x0100040600080100L ^ (1L << (8 * i)), 8);
            desk.type(9, 6);
            desk.type(0, 8);
            desk.type(0, 6);
            CHECK.same("wrong byte " + i, desk.hear(), 1);
        }
        for (int bytes = 20; bytes <= 40; bytes++) {
            desk.type(0x0100040600080100L, 8);
            desk.type(9L << 40, 8);
            for (int i = 16; i < bytes; i++) {
                desk.type(0, 1);
            }
            CHECK.same("length " + bytes, desk.hear(), bytes == 28 ? 0 : 1);
        }
        CHECK.same("bad packets change nothing", Check.look(desk), "counts 3 " + Check.OWN + " 8 0 5 0 0 -1");
    }
}
