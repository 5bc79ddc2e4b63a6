/** Promises 16 to 19 (to, data, out, lost). Each test stands under the document's words for it. */
public final class FramesTest {
    private static final Check CHECK = new Check();
    private static final Class<?> OUTSIDE = IndexOutOfBoundsException.class;

    public static void main(String[] args) {
        emptyAtFirst();
        toOfPacketAndData();
        dataOfPacketAndData();
        outOfData();
        outOfEachByte();
        framesOutside();
        latest100Frames();
        framesAroundTwice();
        packetsAndDataChangePlaces();
        latest100Lost();
        lostOutside();
        lostInTurn();
        CHECK.end();
    }

    /** "IndexOutOfBoundsException: there is no such byte, frame, entry, number." */
    private static void emptyAtFirst() {
        for (int i : new int[] {0, -1, 1, 99, 100, Integer.MIN_VALUE, Integer.MAX_VALUE}) {
            NeighbourDesk desk = new NeighbourDesk(4, 5, 6);
            CHECK.refused(desk, "to " + i, OUTSIDE, () -> desk.to(i));
            CHECK.refused(desk, "data " + i, OUTSIDE, () -> desk.data(i));
            CHECK.refused(desk, "out " + i, OUTSIDE, () -> desk.out(i, 0));
            CHECK.refused(desk, "lost " + i, OUTSIDE, () -> desk.lost(i));
        }
    }

    /** "to which hardware number frame i went" */
    private static void toOfPacketAndData() {
        NeighbourDesk desk = withData();
        CHECK.same("a probe", desk.to(0), Check.ALL);
        CHECK.same("an announcement", desk.to(4), Check.ALL);
        CHECK.same("data", desk.to(5), Check.ALL - 1);
        CHECK.same("data", desk.to(6), Check.ALL - 1);
        CHECK.same("a reply", desk.to(7), 3);
    }

    /** Frames 5 and 6 are data, of 12 and -1; 7 is a reply. */
    private static NeighbourDesk withData() {
        NeighbourDesk desk = Check.kept(4, 50, 50);
        Check.meet(desk, Check.ALL - 1, Check.FRIEND);
        desk.send(Check.FRIEND, 12);
        desk.send(Check.FRIEND, -1);
        Check.hear(desk, 1, 3, Check.OTHER, Check.OWN);
        return desk;
    }

    /** "The number whose DATA it is; NONE for a packet. (Numbers may be anything.)" */
    private static void dataOfPacketAndData() {
        NeighbourDesk desk = withData();
        CHECK.same("a packet", desk.data(4), NeighbourDesk.NONE);
        CHECK.same("data", desk.data(5), 12);
        CHECK.same("data -1", desk.data(6), -1);
        CHECK.same("a reply", desk.data(7), NeighbourDesk.NONE);
    }

    /** "IndexOutOfBoundsException: also of DATA." */
    private static void outOfData() {
        NeighbourDesk desk = withData();
        for (int k : new int[] {0, 27, -1, 28}) {
            CHECK.refused(desk, "byte " + k + " of data", OUTSIDE, () -> desk.out(5, k));
            CHECK.refused(desk, "byte " + k + " of data -1", OUTSIDE, () -> desk.out(6, k));
        }
    }

    /** "Byte k of it, if it is a packet.", "numbers with the highest byte first" */
    private static void outOfEachByte() {
        NeighbourDesk desk = new NeighbourDesk(4, 50, 50);
        desk.here(0xF1E2D3C4B5A6L);
        desk.claim(0x8090A0B0);
        desk.tick(6);
        Check.hear(desk, 1, 0x8182838485FEL, 0xFEDCBA98, 0x8090A0B0);
        int[] due = {0, 1, 8, 0, 6, 4, 0, 2, 0xF1, 0xE2, 0xD3, 0xC4, 0xB5, 0xA6, 0x80, 0x90, 0xA0, 0xB0,
            0x81, 0x82, 0x83, 0x84, 0x85, 0xFE, 0xFE, 0xDC, 0xBA, 0x98};
        for (int k = 0; k < 28; k++) {
            CHECK.same("byte " + k, desk.out(4, k), due[k]);
        }
        for (int k : new int[] {-1, 28, 29, Integer.MIN_VALUE, Integer.MAX_VALUE}) {
            CHECK.refused(desk, "byte " + k, OUTSIDE, () -> desk.out(4, k));
        }
    }

    /** "IndexOutOfBoundsException: there is no such ... frame" */
    private static void framesOutside() {
        for (int i : new int[] {-1, 8, 99, 100, Integer.MIN_VALUE, Integer.MAX_VALUE}) {
            NeighbourDesk desk = withData();
            CHECK.refused(desk, "to " + i, OUTSIDE, () -> desk.to(i));
            CHECK.refused(desk, "data " + i, OUTSIDE, () -> desk.data(i));
            CHECK.refused(desk, "out " + i, OUTSIDE, () -> desk.out(i, 0));
        }
    }

    /** "Of the latest 100 frames (the oldest of them being 0)" */
    private static void latest100Frames() {
        NeighbourDesk desk = Check.kept(4, 1000, 1000);
        Check.meet(desk, 9, Check.FRIEND);
        for (int i = 0; i < 94; i++) {
            desk.send(Check.FRIEND, 1000 + i);
        }
        CHECK.same("99 frames", desk.count(4), 99);
        CHECK.refused(desk, "frame 99", OUTSIDE, () -> desk.to(99));
        desk.send(Check.FRIEND, 1094);
        CHECK.same("100 frames", desk.count(4), 100);
        CHECK.same("the oldest", Check.frame(desk, 0), Check.dueProbe());
        CHECK.same("the latest", Check.frame(desk, 99), Check.dueData(9, 1094));
        desk.send(Check.FRIEND, 1095);
        CHECK.same("101 frames", desk.count(4), 101);
        CHECK.same("the last announcement moved on", Check.frame(desk, 3), Check.dueAnnouncement());
        CHECK.same("data moved on", Check.frame(desk, 4), Check.dueData(9, 1000));
        CHECK.same("the latest now", Check.frame(desk, 99), Check.dueData(9, 1095));
        for (int i : new int[] {-1, 100, 101, Integer.MIN_VALUE, Integer.MAX_VALUE}) {
            CHECK.same("to " + i, Check.thrown(() -> desk.to(i)), OUTSIDE);
            CHECK.same("data " + i, Check.thrown(() -> desk.data(i)), OUTSIDE);
            CHECK.same("out " + i, Check.thrown(() -> desk.out(i, 0)), OUTSIDE);
        }
    }

    /** "Of the latest 100 frames": when each place was written over twice */
    private static void framesAroundTwice() {
        NeighbourDesk desk = Check.kept(4, 1000, 1000);
        Check.meet(desk, 9, Check.FRIEND);
        for (int i = 5; i < 305; i++) {
            desk.send(Check.FRIEND, i);
        }
        for (int i = 0; i < 100; i++) {
            CHECK.same("frame " + i, desk.data(i), 205 + i);
        }
    }

    /** "Byte k of it, if it is a packet.": what stood in its place before is of no account */
    private static void packetsAndDataChangePlaces() {
        NeighbourDesk desk = Check.kept(4, 1000, 1000);
        Check.meet(desk, 9, Check.FRIEND);
        for (int i = 0; i < 103; i++) {
            desk.send(Check.FRIEND, 1000 + i);
        }
        Check.hear(desk, 1, 9, Check.FRIEND, Check.OWN);
        CHECK.same("a packet where data was", Check.frame(desk, 99),
                Check.duePacket(9, 2, 2, Check.OWN, 9, Check.FRIEND));
        CHECK.same("data where a packet was", Check.frame(desk, 98), Check.dueData(9, 1102));
        CHECK.same("the oldest is data", Check.frame(desk, 0), Check.dueData(9, 1004));
    }

    /** "The i-th of the latest 100 numbers that were LOST (the oldest of them being 0)." */
    private static void latest100Lost() {
        NeighbourDesk desk = Check.kept(1, 1000, 1000);
        desk.send(Check.FRIEND, 1);
        for (int i = 0; i < 100; i++) {
            desk.send(Check.OTHER, 2000 + i);
        }
        CHECK.same("100 lost", desk.count(5), 100);
        CHECK.same("the oldest", desk.lost(0), 2000);
        CHECK.same("the latest", desk.lost(99), 2099);
        desk.send(Check.OTHER, -1);
        CHECK.same("101 lost", desk.count(5), 101);
        CHECK.same("the oldest now", desk.lost(0), 2001);
        CHECK.same("the latest now", desk.lost(99), -1);
        for (int i = 0; i < 150; i++) {
            desk.send(Check.OTHER, 3000 + i);
        }
        for (int i = 0; i < 100; i++) {
            CHECK.same("lost " + i, desk.lost(i), 3050 + i);
        }
        desk.release();
        CHECK.same("what waited is lost last", desk.lost(99), 1);
        CHECK.same("the oldest then", desk.lost(0), 3051);
    }

    /** "IndexOutOfBoundsException: there is no such ... number." */
    private static void lostOutside() {
        NeighbourDesk desk = Check.kept(1, 1000, 1000);
        desk.send(Check.FRIEND, 1);
        desk.send(Check.OTHER, 2);
        CHECK.same("the only one", desk.lost(0), 2);
        CHECK.refused(desk, "lost 1 of 1", OUTSIDE, () -> desk.lost(1));
        for (int i = 0; i < 110; i++) {
            desk.send(Check.OTHER, 3);
        }
        for (int i : new int[] {-1, 100, 101, 111, Integer.MIN_VALUE, Integer.MAX_VALUE}) {
            CHECK.refused(desk, "lost " + i, OUTSIDE, () -> desk.lost(i));
        }
    }

    /** "An entry that goes LOSES those that wait, in turn." */
    private static void lostInTurn() {
        NeighbourDesk desk = Check.kept(2, 50, 50);
        for (int i = 0; i < 5; i++) {
            desk.send(Check.FRIEND, 10 + i);
            desk.send(Check.OTHER, 20 + i);
        }
        CHECK.same("the fifth ones at once", Check.losses(desk), "14 24");
        desk.tick(6);
        CHECK.same("then each entry's own", Check.losses(desk), "14 24 10 11 12 13 20 21 22 23");
    }
}
