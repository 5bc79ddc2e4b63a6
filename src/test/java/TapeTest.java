/** Promises 3 (type), 4 (pack), 5 (hear) and bad packets. Each test stands under the document's words for it. */
public final class TapeTest {
    private static final Check CHECK = new Check();
    private static final long HEAD = 0x0100040600080100L;

    public static void main(String[] args) {
        typeCounts();
        typeOfWrongN();
        typeUpTo40();
        typedByteByByte();
        typedAtOnce();
        refusedTypeLeavesTape();
        packInsteadOfTape();
        packLowest48Bits();
        packLowest16Bits();
        packOfGreatNumbers();
        hearEmptiesTape();
        badLength();
        badHead();
        badOperation();
        badSender();
        targetIsNeverBad();
        badComesFirst();
        CHECK.end();
    }

    /** "n bytes more on the TAPE (at first empty) ...: how many it has" */
    private static void typeCounts() {
        NeighbourDesk desk = new NeighbourDesk(4, 5, 6);
        int length = 0;
        for (int n = 1; n <= 8; n++) {
            length += n;
            CHECK.same("length", desk.type(-1, n), length);
        }
    }

    /** "IllegalArgumentException: n is not 1 .. 8" */
    private static void typeOfWrongN() {
        NeighbourDesk desk = new NeighbourDesk(4, 5, 6);
        for (int n : new int[] {0, -1, 9, 40, Integer.MIN_VALUE, Integer.MAX_VALUE}) {
            CHECK.refused(desk, "type of " + n, IllegalArgumentException.class, () -> desk.type(0, n));
        }
        CHECK.same("the tape is still empty", desk.type(0, 1), 1);
    }

    /** "IllegalStateException: there would be more than 40" */
    private static void typeUpTo40() {
        for (int n = 1; n <= 8; n++) {
            int more = n;
            NeighbourDesk desk = new NeighbourDesk(4, 5, 6);
            int length = 0;
            while (length + more <= 40) {
                length += more;
                CHECK.same("length", desk.type(-1, more), length);
            }
            CHECK.refused(desk, "beyond 40", IllegalStateException.class, () -> desk.type(0, more));
            if (length < 40) {
                CHECK.same("just 40", desk.type(0, 40 - length), 40);
            }
            CHECK.refused(desk, "one more than 40", IllegalStateException.class, () -> desk.type(0, 1));
        }
    }

    /** "the lowest byte of w first": of a byte alone the higher ones are not looked at */
    private static void typedByteByByte() {
        NeighbourDesk desk = Check.kept(4, 50, 50);
        int[] bytes = {0, 1, 8, 0, 6, 4, 0, 1, 0xF1, 0xE2, 0xD3, 0xC4, 0xB5, 0xA6, 0x80, 0xFF, 0xFE, 1,
            9, 9, 9, 9, 9, 9, 10, 0, 0, 1};
        for (int i = 0; i < bytes.length; i++) {
            CHECK.same("length", desk.type(0xABCDEF0123456700L | bytes[i], 1), i + 1);
        }
        CHECK.same("heard", desk.hear(), 0);
        CHECK.same("its number", desk.hardware(0x80FFFE01), 0xF1E2D3C4B5A6L);
    }

    /** "the lowest byte of w first" */
    private static void typedAtOnce() {
        NeighbourDesk desk = Check.kept(4, 50, 50);
        desk.type(HEAD, 8);
        desk.type(0x0000A6B5C4D3E2F1L, 6);
        desk.type(0x01FEFF80L, 4);
        desk.type(0, 6);
        desk.type(0x7F0100000AL, 4);
        CHECK.same("a typed packet", desk.hear(), 0);
        CHECK.same("its entry", Check.entry(desk, 0x80FFFE01), "80fffe01 kind 2 waiting 0 since 8 used 8 at "
                + 0xF1E2D3C4B5A6L);
        CHECK.same("its reply", Check.last(desk),
                Check.duePacket(0xF1E2D3C4B5A6L, 2, 2, Check.OWN, 0xF1E2D3C4B5A6L, 0x80FFFE01));
    }

    /** "A call that throws changes nothing" */
    private static void refusedTypeLeavesTape() {
        NeighbourDesk desk = Check.kept(4, 50, 50);
        desk.pack(1, 9, Check.FRIEND, 0, Check.OWN);
        CHECK.same("type of 9", Check.thrown(() -> desk.type(-1, 9)), IllegalArgumentException.class);
        CHECK.same("type of 0", Check.thrown(() -> desk.type(-1, 0)), IllegalArgumentException.class);
        CHECK.same("count of 8", Check.thrown(() -> desk.count(8)), IllegalArgumentException.class);
        CHECK.same("tick of 41", Check.thrown(() -> desk.tick(41)), IllegalArgumentException.class);
        CHECK.same("claim", Check.thrown(() -> desk.claim(5)), IllegalStateException.class);
        CHECK.same("the packet is still there", desk.hear(), 0);
        CHECK.same("and whole", desk.hardware(Check.FRIEND), 9);
        desk.type(0, 8);
        desk.type(0, 8);
        desk.type(0, 8);
        desk.type(0, 8);
        desk.type(0, 7);
        CHECK.same("39 and 2", Check.thrown(() -> desk.type(-1, 2)), IllegalStateException.class);
        CHECK.same("39 it still has", desk.type(0, 1), 40);
    }

    /** "A packet on the TAPE instead of what is there" */
    private static void packInsteadOfTape() {
        NeighbourDesk desk = Check.kept(4, 50, 50);
        for (int typed = 0; typed <= 40; typed++) {
            for (int i = 0; i < typed; i += 8) {
                desk.type(-1, Math.min(8, typed - i));
            }
            desk.pack(1, 9, Check.FRIEND, 0, Check.OTHER);
            CHECK.same("instead of " + typed, desk.hear(), 0);
        }
        desk.pack(1, 2, 5, 5, 5);
        desk.pack(1, 9, Check.OTHER, 0, Check.OWN);
        CHECK.same("instead of a packet", desk.hear(), 0);
        CHECK.same("the last one counts", desk.knows(Check.OTHER), true);
        desk.pack(1, 9, Check.OTHER, 0, Check.OWN);
        CHECK.same("it has 28 bytes", desk.type(0, 1), 29);
    }

    /** "the lowest 48 bits of hardware numbers" */
    private static void packLowest48Bits() {
        NeighbourDesk desk = Check.kept(4, 50, 50);
        CHECK.same("heard", Check.hear(desk, 1, 0x7777_8123_4567_89abL, 0x90A0B0C0, Check.OWN), 0);
        CHECK.same("the lowest 48 bits", desk.hardware(0x90A0B0C0), 0x8123_4567_89abL);
        CHECK.same("the reply", Check.last(desk),
                Check.duePacket(0x8123_4567_89abL, 2, 2, Check.OWN, 0x8123_4567_89abL, 0x90A0B0C0));
        CHECK.same("-2 is the greatest but ALL", Check.hear(desk, 1, -2, Check.FRIEND, Check.OWN), 0);
        CHECK.same("its number", desk.hardware(Check.FRIEND), Check.ALL - 1);
        desk.pack(1, 9, Check.FRIEND, -1, Check.OWN);
        CHECK.same("a target of 64 bits", desk.hear(), 0);
        CHECK.same("spoils neither side", Check.last(desk), Check.duePacket(9, 2, 2, Check.OWN, 9, Check.FRIEND));
    }

    /** "the lowest 16 of the operation" */
    private static void packLowest16Bits() {
        NeighbourDesk desk = Check.kept(4, 50, 50);
        int frames = 5;
        for (int operation : new int[] {0x10001, 0xFFFF0001, 0x7FFF0001}) {
            CHECK.same("asks", Check.hear(desk, operation, 9, Check.FRIEND, Check.OWN), 0);
            frames++;
            CHECK.same("is replied to", desk.count(4), frames);
        }
        for (int operation : new int[] {0x10002, 0xFFFF0002}) {
            CHECK.same("answers", Check.hear(desk, operation, 9, Check.FRIEND, Check.OWN), 0);
            CHECK.same("is not", desk.count(4), frames);
        }
    }

    /** "as told": addresses are ints of any sign */
    private static void packOfGreatNumbers() {
        for (int address : new int[] {1, -1, -2, Integer.MIN_VALUE, Integer.MAX_VALUE, 0x00FF00FF}) {
            NeighbourDesk desk = Check.kept(4, 50, 50);
            Check.hear(desk, 1, 9, address, Check.OWN);
            CHECK.same("entry", desk.entry(0), address);
            CHECK.same("reply", Check.last(desk), Check.duePacket(9, 2, 2, Check.OWN, 9, address));
        }
    }

    /** "The TAPE is heard as a packet, and is empty then: 1 it is BAD, 2 a CONFLICT, 0 otherwise." */
    private static void hearEmptiesTape() {
        NeighbourDesk desk = Check.kept(4, 50, 50);
        long[][] packets = {{9, Check.FRIEND, 0}, {2, Check.FRIEND, 1}, {9, Check.OWN, 2}};
        for (long[] packet : packets) {
            desk.pack(1, packet[0], (int) packet[1], 0, Check.OWN);
            CHECK.same("heard", desk.hear(), packet[2]);
            CHECK.same("the tape is empty then", desk.type(0, 3), 3);
            CHECK.same("3 bytes are bad", desk.hear(), 1);
            CHECK.same("nothing is bad", desk.hear(), 1);
        }
    }

    /** "it is BAD, if it has not 28 bytes" */
    private static void badLength() {
        for (int bytes = 0; bytes <= 40; bytes++) {
            NeighbourDesk desk = Check.kept(4, 50, 50);
            for (int i = 0; i < bytes; i++) {
                desk.type(i < 8 ? HEAD >> (8 * i) : i == 13 ? 9 : i == 14 ? 70 : 0, 1);
            }
            CHECK.same("length " + bytes, desk.hear(), bytes == 28 ? 0 : 1);
        }
        NeighbourDesk desk = Check.kept(4, 50, 50);
        desk.pack(1, 9, Check.OWN, 0, Check.OWN);
        desk.type(0, 1);
        CHECK.same("29 bytes", desk.hear(), 1);
        CHECK.same("bad packets change nothing", Check.look(desk), "counts 3 " + Check.OWN + " 8 0 5 0 0 -1");
    }

    /** "does not begin with the numbers told" */
    private static void badHead() {
        for (int bit = 0; bit < 48; bit++) {
            NeighbourDesk desk = Check.kept(4, 50, 50);
            desk.type(HEAD ^ (1L << bit), 8);
            desk.type(9, 6);
            desk.type(0x0100000AL, 4);
            desk.type(0, 6);
            desk.type(0x0100000AL, 4);
            CHECK.same("wrong bit " + bit, desk.hear(), 1);
            CHECK.same("bad packets change nothing", Check.look(desk), "counts 3 " + Check.OWN + " 8 0 5 0 0 -1");
        }
    }

    /** "or its operation is another one" */
    private static void badOperation() {
        NeighbourDesk desk = Check.kept(4, 50, 50);
        for (int operation : new int[] {0, 3, -1, 0x100, 0x101, 0x102, 0x200, 0x8001, 0x10000, 0x10003,
            Integer.MIN_VALUE, Integer.MAX_VALUE}) {
            CHECK.same("operation " + operation, Check.hear(desk, operation, 9, Check.OWN, Check.OWN), 1);
        }
        CHECK.same("bad packets change nothing", Check.look(desk), "counts 3 " + Check.OWN + " 8 0 5 0 0 -1");
    }

    /** "or its sender's hardware number is HERE, 0 or ALL" */
    private static void badSender() {
        for (int operation = 1; operation <= 2; operation++) {
            NeighbourDesk desk = Check.kept(4, 50, 50);
            for (long sender : new long[] {0, 2, Check.ALL, -1, 1L << 48, (1L << 48) + 2, Long.MAX_VALUE}) {
                CHECK.same("sender " + sender, Check.hear(desk, operation, sender, Check.FRIEND, Check.OWN), 1);
            }
            CHECK.same("bad packets change nothing", Check.look(desk), "counts 3 " + Check.OWN + " 8 0 5 0 0 -1");
            for (long sender : new long[] {1, 3, Check.ALL - 1, 1L << 47}) {
                CHECK.same("sender " + sender, Check.hear(desk, operation, sender, Check.FRIEND, Check.OWN), 0);
                CHECK.same("is learned", desk.hardware(Check.FRIEND), sender);
            }
        }
    }

    /** What is BAD names the sender's hardware number alone: the target's may be any. */
    private static void targetIsNeverBad() {
        NeighbourDesk desk = Check.kept(4, 50, 50);
        for (long target : new long[] {0, 2, 9, Check.ALL}) {
            desk.pack(1, 9, Check.FRIEND, target, Check.OWN);
            CHECK.same("target " + target, desk.hear(), 0);
        }
    }

    /** "it is BAD ... Otherwise: a CONFLICT" */
    private static void badComesFirst() {
        for (int ticks : new int[] {0, 6, 8}) {
            NeighbourDesk desk = new NeighbourDesk(4, 50, 50);
            desk.claim(Check.OWN);
            desk.tick(ticks);
            int frames = desk.count(4);
            CHECK.same("from HERE with OWN", Check.hear(desk, 1, 2, Check.OWN, Check.OWN), 1);
            CHECK.same("from HERE, a probe", Check.hear(desk, 1, 2, 0, Check.OWN), 1);
            CHECK.same("OWN stays", desk.count(1), Check.OWN);
            CHECK.same("no frame", desk.count(4), frames);
        }
    }
}
