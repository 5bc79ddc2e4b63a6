/** Promises 11 to 14 (entry, about, hardware, knows) and what a packet that is heard does to entries. */
public final class CacheTest {
    private static final Check CHECK = new Check();
    private static final Class<?> NO_ENTRY = java.util.NoSuchElementException.class;

    public static void main(String[] args) {
        entry();
        about();
        hardwareAndKnows();
        learned();
        room();
        reply();
        CHECK.end();
    }

    private static void entry() {
        NeighbourDesk desk = Check.kept(3, 50, 50);
        CHECK.refused(desk, "entry of none", IndexOutOfBoundsException.class, () -> desk.entry(0));
        desk.send(Check.FRIEND, 1);
        Check.meet(desk, 9, Check.OTHER);
        desk.send(-5, 1);
        CHECK.same("made in turn", Check.order(desk), "a000002 a000003 fffffffb");
        desk.send(Check.FRIEND, 2);
        CHECK.same("used", Check.order(desk), "a000003 fffffffb a000002");
        Check.hear(desk, 1, 8, Check.OTHER, Check.OWN);
        CHECK.same("hearing is no use", Check.order(desk), "a000003 fffffffb a000002");
        for (int bad : new int[] {-1, 3, 4, Integer.MIN_VALUE, Integer.MAX_VALUE}) {
            CHECK.refused(desk, "entry " + bad, IndexOutOfBoundsException.class, () -> desk.entry(bad));
        }
    }

    private static void about() {
        NeighbourDesk desk = Check.kept(3, 50, 50);
        for (int bad : new int[] {-1, 4, Integer.MIN_VALUE, Integer.MAX_VALUE}) {
            CHECK.refused(desk, "about " + bad, IllegalArgumentException.class, () -> desk.about(Check.FRIEND, bad));
        }
        for (int what = 0; what < 4; what++) {
            int asked = what;
            CHECK.refused(desk, "no entry", NO_ENTRY, () -> desk.about(Check.FRIEND, asked));
        }
        CHECK.refused(desk, "no entry of 0", NO_ENTRY, () -> desk.about(0, 0));
        CHECK.refused(desk, "no entry of OWN", NO_ENTRY, () -> desk.about(Check.OWN, 0));
        desk.send(Check.FRIEND, 1);
        desk.send(Check.FRIEND, 2);
        desk.tick(3);
        desk.send(Check.FRIEND, 3);
        CHECK.same("what it is", desk.about(Check.FRIEND, 0), 1);
        CHECK.same("how many wait", desk.about(Check.FRIEND, 1), 3);
        CHECK.same("since when", desk.about(Check.FRIEND, 2), 8);
        CHECK.same("used", desk.about(Check.FRIEND, 3), 11);
        CHECK.refused(desk, "about 4", IllegalArgumentException.class, () -> desk.about(Check.FRIEND, 4));
    }

    private static void hardwareAndKnows() {
        NeighbourDesk desk = Check.kept(3, 2, 50);
        CHECK.refused(desk, "no entry", NO_ENTRY, () -> desk.hardware(Check.FRIEND));
        CHECK.same("unknown", desk.knows(Check.FRIEND), false);
        CHECK.same("0 is unknown", desk.knows(0), false);
        desk.send(Check.FRIEND, 1);
        CHECK.same("asked", desk.hardware(Check.FRIEND), 0);
        CHECK.same("asked is unknown", desk.knows(Check.FRIEND), false);
        Check.meet(desk, Check.ALL - 1, Check.FRIEND);
        CHECK.same("good", desk.hardware(Check.FRIEND), Check.ALL - 1);
        CHECK.same("good is known", desk.knows(Check.FRIEND), true);
        desk.tick(2);
        CHECK.same("old is known", desk.knows(Check.FRIEND), true);
        desk.send(Check.FRIEND, 1);
        CHECK.same("checked is known", desk.knows(Check.FRIEND), true);
        desk.tick(3);
        CHECK.refused(desk, "gone", NO_ENTRY, () -> desk.hardware(Check.FRIEND));
        desk.send(Check.FRIEND, 1);
        CHECK.same("asked anew", desk.hardware(Check.FRIEND), 0);
    }

    private static void learned() {
        NeighbourDesk desk = Check.kept(3, 2, 50);
        CHECK.same("not for OWN", Check.hear(desk, 2, 9, Check.FRIEND, Check.OTHER), 0);
        CHECK.same("is not learned", desk.count(3), 0);
        CHECK.same("an answer for OWN", Check.hear(desk, 2, 9, Check.FRIEND, Check.OWN), 0);
        CHECK.same("is learned", Check.entry(desk, Check.FRIEND), "a000002 kind 2 waiting 0 since 8 used 8 at 9");
        CHECK.same("and not replied to", desk.count(4), 5);
        CHECK.same("an answer from 0", Check.hear(desk, 2, 9, 0, Check.OWN), 0);
        CHECK.same("an answer from -1", Check.hear(desk, 2, 9, -1, Check.OWN), 0);
        CHECK.same("-1 gets an entry, 0 none", Check.order(desk), "a000002 ffffffff");
        desk.tick(2);
        CHECK.same("heard by the way", Check.hear(desk, 1, 10, Check.FRIEND, 77), 0);
        CHECK.same("good from now on, not used", Check.entry(desk, Check.FRIEND),
                "a000002 kind 2 waiting 0 since 10 used 8 at 10");
        CHECK.same("no frame", desk.count(4), 5);
    }

    private static void room() {
        NeighbourDesk desk = Check.kept(3, 50, 50);
        desk.send(60, 1);
        Check.meet(desk, 9, 61);
        Check.meet(desk, 10, 62);
        Check.meet(desk, 11, 61);
        CHECK.same("full", Check.order(desk), "3c 3d 3e");
        Check.meet(desk, 12, 63);
        CHECK.same("the first that is not asked went", Check.order(desk), "3c 3e 3f");
        Check.meet(desk, 13, 62);
        CHECK.same("one with an entry needs no room", Check.order(desk), "3c 3e 3f");
        desk.send(64, 2);
        desk.send(65, 3);
        CHECK.same("asked ones", Check.order(desk), "3c 40 41");
        Check.hear(desk, 1, 14, 66, Check.OWN);
        CHECK.same("no room", Check.order(desk), "3c 40 41");
        CHECK.same("but a reply", Check.last(desk), Check.duePacket(14, 2, 2, Check.OWN, 14, 66));
        CHECK.same("none is lost", desk.count(5), 0);
    }

    private static void reply() {
        NeighbourDesk desk = Check.kept(3, 50, 50);
        desk.send(Check.FRIEND, 5);
        Check.hear(desk, 1, 9, Check.FRIEND, Check.OWN);
        CHECK.same("data first", Check.frame(desk, 6), Check.dueData(9, 5));
        CHECK.same("then the reply", Check.frame(desk, 7), Check.duePacket(9, 2, 2, Check.OWN, 9, Check.FRIEND));
        CHECK.same("no more", desk.count(4), 8);
    }
}
