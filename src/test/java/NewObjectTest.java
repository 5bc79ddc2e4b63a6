/** Promise 1 (a new object), promise 2 (here) and promise 10 (count). */
public final class NewObjectTest {
    private static final Check CHECK = new Check();

    public static void main(String[] args) {
        atFirst();
        capacity();
        reach();
        age();
        here();
        count();
        CHECK.end();
    }

    private static void atFirst() {
        NeighbourDesk desk = new NeighbourDesk(4, 5, 6);
        CHECK.same("a new desk", Check.look(desk), "counts 0 0 0 0 0 0 0 -1");
        CHECK.same("tape", desk.type(0, 1), 1);
    }

    private static void capacity() {
        int[][] pairs = {{Integer.MIN_VALUE, 1}, {-1, 1}, {0, 1}, {1, 1}, {2, 2}, {31, 31}, {32, 32}, {33, 32},
            {Integer.MAX_VALUE, 32}};
        for (int[] pair : pairs) {
            NeighbourDesk desk = Check.kept(pair[0], 5, 6);
            for (int i = 0; i < 40; i++) {
                CHECK.same("send " + i + " with capacity " + pair[0], desk.send(100 + i, i), i < pair[1] ? 1 : 2);
            }
            CHECK.same("entries with capacity " + pair[0], desk.count(3), pair[1]);
        }
    }

    private static void reach() {
        int[][] pairs = {{Integer.MIN_VALUE, 1}, {0, 1}, {1, 1}, {2, 2}, {999, 999}, {1000, 1000}, {1001, 1000},
            {Integer.MAX_VALUE, 1000}};
        for (int[] pair : pairs) {
            NeighbourDesk desk = Check.kept(4, pair[0], 1000);
            Check.meet(desk, 9, Check.FRIEND);
            pass(desk, pair[1] - 1);
            CHECK.same("before reach " + pair[0], desk.about(Check.FRIEND, 0), NeighbourDesk.GOOD);
            desk.tick(1);
            CHECK.same("after reach " + pair[0], desk.about(Check.FRIEND, 0), NeighbourDesk.OLD);
        }
    }

    private static void age() {
        // An entry is looked at as an old one from tick 2 on, so 1 shows as 2.
        int[][] pairs = {{Integer.MIN_VALUE, 2}, {0, 2}, {1, 2}, {2, 2}, {3, 3}, {999, 999}, {1000, 1000},
            {1001, 1000}, {Integer.MAX_VALUE, 1000}};
        for (int[] pair : pairs) {
            NeighbourDesk desk = Check.kept(4, 1, pair[0]);
            Check.meet(desk, 9, Check.FRIEND);
            pass(desk, pair[1] - 1);
            CHECK.same("before age " + pair[0], desk.knows(Check.FRIEND), true);
            desk.tick(1);
            CHECK.same("after age " + pair[0], desk.knows(Check.FRIEND), false);
        }
    }

    private static void pass(NeighbourDesk desk, int ticks) {
        for (int i = 0; i < ticks / 40; i++) {
            desk.tick(40);
        }
        desk.tick(ticks % 40);
    }

    private static void here() {
        NeighbourDesk desk = new NeighbourDesk(4, 5, 6);
        for (long bad : new long[] {0, -1, Check.ALL, Check.ALL + 1, Long.MIN_VALUE, Long.MAX_VALUE}) {
            CHECK.refused(desk, "here " + bad, IllegalArgumentException.class, () -> desk.here(bad));
        }
        desk.claim(Check.OWN);
        CHECK.same("HERE at first", Check.last(desk), Check.duePacket(Check.ALL, 1, 2, 0, 0, Check.OWN));
        CHECK.refused(desk, "here with a phase", IllegalStateException.class, () -> desk.here(5));
        CHECK.refused(desk, "here 0 with a phase", IllegalArgumentException.class, () -> desk.here(0));
        desk.release();
        for (long good : new long[] {1, Check.ALL - 1, 0x123456789abcL}) {
            desk.here(good);
            desk.claim(Check.OWN);
            CHECK.same("HERE", Check.last(desk), Check.duePacket(Check.ALL, 1, good, 0, 0, Check.OWN));
            desk.release();
        }
        CHECK.same("HERE is bad", Check.hear(desk, 1, 0x123456789abcL, 5, 6), 1);
        CHECK.same("2 is HERE no more", Check.hear(desk, 1, 2, 5, 6), 0);
    }

    private static void count() {
        NeighbourDesk desk = Check.kept(3, 50, 50);
        for (int bad : new int[] {-1, 8, Integer.MIN_VALUE, Integer.MAX_VALUE}) {
            CHECK.refused(desk, "count " + bad, IllegalArgumentException.class, () -> desk.count(bad));
        }
        desk.send(Check.FRIEND, 1);
        desk.send(Check.FRIEND, 2);
        desk.send(Check.OTHER, 3);
        CHECK.same("PHASE", desk.count(0), 3);
        CHECK.same("OWN", desk.count(1), Check.OWN);
        CHECK.same("TIME", desk.count(2), 8);
        CHECK.same("entries", desk.count(3), 2);
        CHECK.same("frames", desk.count(4), 7);
        CHECK.same("lost", desk.count(5), 0);
        CHECK.same("waiting", desk.count(6), 3);
        CHECK.same("not defended", desk.count(7), -1);
        CHECK.same("conflict", Check.hear(desk, 2, 9, Check.OWN, 0), 2);
        CHECK.same("defended", desk.count(7), 8);
        desk.release();
        CHECK.same("after release", Check.look(desk), "counts 0 0 8 0 8 3 0 8");
    }
}
