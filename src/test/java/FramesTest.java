/** Promises 16 to 19: to, data, out, lost. */
public final class FramesTest {
    private static final Check CHECK = new Check();
    private static final Class<?> OUTSIDE = IndexOutOfBoundsException.class;

    public static void main(String[] args) {
        atFirst();
        frames();
        bytes();
        latestFrames();
        latestLost();
        CHECK.end();
    }

    private static void atFirst() {
        NeighbourDesk desk = new NeighbourDesk(4, 5, 6);
        for (int i : new int[] {0, -1, 99, 100, Integer.MIN_VALUE, Integer.MAX_VALUE}) {
            CHECK.refused(desk, "to " + i, OUTSIDE, () -> desk.to(i));
            CHECK.refused(desk, "data " + i, OUTSIDE, () -> desk.data(i));
            CHECK.refused(desk, "out " + i, OUTSIDE, () -> desk.out(i, 0));
            CHECK.refused(desk, "lost " + i, OUTSIDE, () -> desk.lost(i));
        }
    }

    private static void frames() {
        NeighbourDesk desk = Check.kept(4, 50, 50);
        Check.meet(desk, 9, Check.FRIEND);
        desk.send(Check.FRIEND, 12);
        desk.send(Check.FRIEND, -1);
        CHECK.same("to of a packet", desk.to(4), Check.ALL);
        CHECK.same("data of a packet", desk.data(4), -1);
        CHECK.same("to of data", desk.to(5), 9);
        CHECK.same("data", desk.data(5), 12);
        CHECK.same("data -1", desk.data(6), -1);
        CHECK.refused(desk, "out of data", OUTSIDE, () -> desk.out(5, 0));
        CHECK.refused(desk, "out of data -1", OUTSIDE, () -> desk.out(6, 0));
        for (int i : new int[] {-1, 7, Integer.MAX_VALUE}) {
            CHECK.refused(desk, "to " + i, OUTSIDE, () -> desk.to(i));
            CHECK.refused(desk, "data " + i, OUTSIDE, () -> desk.data(i));
            CHECK.refused(desk, "out " + i, OUTSIDE, () -> desk.out(i, 0));
        }
        for (int k : new int[] {-1, 28, Integer.MIN_VALUE, Integer.MAX_VALUE}) {
            CHECK.refused(desk, "byte " + k, OUTSIDE, () -> desk.out(0, k));
        }
    }

    /** Bytes are 0 .. 255, each number with the highest one first. */
    private static void bytes() {
        NeighbourDesk desk = new NeighbourDesk(4, 50, 50);
        desk.here(0xF1E2D3C4B5A6L);
        desk.claim(0x8090A0B0);
        desk.tick(6);
        Check.hear(desk, 1, 0x8182838485FEL, 0xFEDCBA98, 0x8090A0B0);
        int[] due = {0, 1, 8, 0, 6, 4, 0, 2, 0xF1, 0xE2, 0xD3, 0xC4, 0xB5, 0xA6, 0x80, 0x90, 0xA0, 0xB0,
            0x81, 0x82, 0x83, 0x84, 0x85, 0xFE, 0xFE, 0xDC, 0xBA, 0x98};
        for (int k = 0; k < 28; k++) {
            CHECK.same("byte " + k, desk.out(4, k), due[k]);
        }
        CHECK.same("to", desk.to(4), 0x8182838485FEL);
    }

    private static void latestFrames() {
        NeighbourDesk desk = Check.kept(4, 1000, 1000);
        Check.meet(desk, 9, Check.FRIEND);
        for (int i = 0; i < 95; i++) {
            desk.send(Check.FRIEND, 1000 + i);
        }
        CHECK.same("100 frames", desk.count(4), 100);
        CHECK.same("the oldest", Check.frame(desk, 0), Check.dueProbe());
        CHECK.same("the latest", Check.frame(desk, 99), Check.dueData(9, 1094));
        desk.send(Check.FRIEND, 1095);
        CHECK.same("101 frames", desk.count(4), 101);
        CHECK.same("the oldest now", Check.frame(desk, 3), Check.dueAnnouncement());
        CHECK.same("data moved on", Check.frame(desk, 4), Check.dueData(9, 1000));
        CHECK.same("the latest now", Check.frame(desk, 99), Check.dueData(9, 1095));
        CHECK.refused(desk, "frame 100", OUTSIDE, () -> desk.to(100));
        CHECK.refused(desk, "data 100", OUTSIDE, () -> desk.data(100));
        CHECK.refused(desk, "out 100", OUTSIDE, () -> desk.out(100, 0));
        for (int i = 0; i < 7; i++) {
            desk.send(Check.FRIEND, 1096 + i);
        }
        Check.hear(desk, 1, 9, Check.FRIEND, Check.OWN);
        CHECK.same("a packet where data was", Check.frame(desk, 99),
                Check.duePacket(9, 2, 2, Check.OWN, 9, Check.FRIEND));
        CHECK.same("data where a packet was", Check.frame(desk, 98), Check.dueData(9, 1102));
        CHECK.same("the oldest is data", Check.frame(desk, 0), Check.dueData(9, 1004));
    }

    private static void latestLost() {
        NeighbourDesk desk = Check.kept(1, 1000, 1000);
        desk.send(Check.FRIEND, 1);
        for (int i = 0; i < 100; i++) {
            desk.send(Check.OTHER, 2000 + i);
        }
        CHECK.same("100 lost", desk.count(5), 100);
        CHECK.same("the oldest", desk.lost(0), 2000);
        CHECK.same("the latest", desk.lost(99), 2099);
        desk.send(Check.OTHER, -1);
        CHECK.same("101 lost", desk.count(5), 101);
        CHECK.same("the oldest now", desk.lost(0), 2001);
        CHECK.same("the latest now", desk.lost(99), -1);
        for (int i : new int[] {-1, 100, 101, Integer.MIN_VALUE, Integer.MAX_VALUE}) {
            CHECK.refused(desk, "lost " + i, OUTSIDE, () -> desk.lost(i));
        }
        desk.release();
        CHECK.same("what waited is lost last", desk.lost(99), 1);
    }
}
