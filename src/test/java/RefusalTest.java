/**
 * "A call that throws changes nothing; of several exceptions the one named first is thrown": each call that can throw,
 * on desks of each phase with something of all that a call could change.
 */
public final class RefusalTest {
    private static final Check CHECK = new Check();
    private static final Class<?> WRONG = IllegalArgumentException.class;
    private static final Class<?> NOT_NOW = IllegalStateException.class;
    private static final Class<?> NO_ENTRY = java.util.NoSuchElementException.class;
    private static final Class<?> OUTSIDE = IndexOutOfBoundsException.class;

    public static void main(String[] args) {
        for (int ticks : new int[] {-1, 0, 6, 8}) {
            NeighbourDesk desk = new NeighbourDesk(4, 3, 50);
            if (ticks >= 0) {
                desk.claim(Check.OWN);
                desk.tick(ticks);
            }
            changesNothing(desk, ticks >= 0, ticks >= 6);
            firstNamed(desk, ticks >= 0);
        }
        NeighbourDesk desk = full();
        changesNothing(desk, true, true);
        firstNamed(desk, true);
        CHECK.end();
    }

    /** One entry of each kind, with some that wait, some that are lost, and a defence. */
    private static NeighbourDesk full() {
        NeighbourDesk desk = Check.kept(4, 3, 50);
        Check.meet(desk, 9, 60);
        Check.meet(desk, 10, 61);
        desk.tick(3);
        Check.meet(desk, 11, 62);
        desk.send(61, 1);
        for (int i = 0; i < 5; i++) {
            desk.send(63, 2 + i);
        }
        Check.hear(desk, 1, 9, Check.OWN, 0);
        for (int kind = 1; kind <= 4; kind++) {
            CHECK.same("kind", desk.about(new int[] {63, 62, 60, 61}[kind - 1], 0), kind);
        }
        return desk;
    }

    private static void changesNothing(NeighbourDesk desk, boolean phase, boolean maySend) {
        desk.pack(1, 12, 70, 0, 71);
        String before = Check.whole(desk);
        refuseNumbers(desk);
        refuseIndexes(desk);
        if (phase) {
            CHECK.same("here", Check.thrown(() -> desk.here(5)), NOT_NOW);
            CHECK.same("claim", Check.thrown(() -> desk.claim(5)), NOT_NOW);
        }
        if (!maySend) {
            CHECK.same("send", Check.thrown(() -> desk.send(70, 1)), NOT_NOW);
        }
        CHECK.same("all is as before", Check.whole(desk), before);
        CHECK.same("the tape, too", desk.type(0, 1), 29);
        desk.pack(1, 2, 70, 0, 71);
        CHECK.same("HERE is still 2", desk.hear(), 1);
    }

    private static void refuseNumbers(NeighbourDesk desk) {
        CHECK.same("here 0", Check.thrown(() -> desk.here(0)), WRONG);
        CHECK.same("here ALL", Check.thrown(() -> desk.here(Check.ALL)), WRONG);
        CHECK.same("type of 0", Check.thrown(() -> desk.type(1, 0)), WRONG);
        CHECK.same("type of 9", Check.thrown(() -> desk.type(1, 9)), WRONG);
        CHECK.same("claim 0", Check.thrown(() -> desk.claim(0)), WRONG);
        CHECK.same("claim -1", Check.thrown(() -> desk.claim(-1)), WRONG);
        CHECK.same("send to 0", Check.thrown(() -> desk.send(0, 1)), WRONG);
        CHECK.same("send to -1", Check.thrown(() -> desk.send(-1, 1)), WRONG);
        CHECK.same("send to OWN", Check.thrown(() -> desk.send(desk.count(1), 1)), WRONG);
        CHECK.same("tick -1", Check.thrown(() -> desk.tick(-1)), WRONG);
        CHECK.same("tick 41", Check.thrown(() -> desk.tick(41)), WRONG);
        CHECK.same("count 8", Check.thrown(() -> desk.count(8)), WRONG);
        CHECK.same("about 4", Check.thrown(() -> desk.about(63, 4)), WRONG);
    }

    private static void refuseIndexes(NeighbourDesk desk) {
        CHECK.same("entry", Check.thrown(() -> desk.entry(desk.count(3))), OUTSIDE);
        CHECK.same("about", Check.thrown(() -> desk.about(70, 0)), NO_ENTRY);
        CHECK.same("hardware", Check.thrown(() -> desk.hardware(70)), NO_ENTRY);
        CHECK.same("waits", Check.thrown(() -> desk.waits(70, 0)), NO_ENTRY);
        CHECK.same("to", Check.thrown(() -> desk.to(desk.count(4))), OUTSIDE);
        CHECK.same("data", Check.thrown(() -> desk.data(desk.count(4))), OUTSIDE);
        CHECK.same("out", Check.thrown(() -> desk.out(desk.count(4), 0)), OUTSIDE);
        CHECK.same("lost", Check.thrown(() -> desk.lost(desk.count(5))), OUTSIDE);
        if (desk.count(3) > 0) {
            CHECK.same("waits 4", Check.thrown(() -> desk.waits(63, 4)), OUTSIDE);
            CHECK.same("waits 0 of a good one", Check.thrown(() -> desk.waits(62, 0)), OUTSIDE);
        }
    }

    private static void firstNamed(NeighbourDesk desk, boolean phase) {
        String before = Check.whole(desk);
        for (int i = 0; i < 5; i++) {
            desk.type(0, 8);
        }
        CHECK.same("type of 9 on a full tape", Check.thrown(() -> desk.type(0, 9)), WRONG);
        CHECK.same("type of 0 on a full tape", Check.thrown(() -> desk.type(0, 0)), WRONG);
        CHECK.same("type of 1 on a full tape", Check.thrown(() -> desk.type(0, 1)), NOT_NOW);
        CHECK.same("here 0 in any phase", Check.thrown(() -> desk.here(0)), WRONG);
        CHECK.same("claim 0 in any phase", Check.thrown(() -> desk.claim(0)), WRONG);
        CHECK.same("send to OWN in any phase", Check.thrown(() -> desk.send(desk.count(1), 1)), WRONG);
        CHECK.same("about of no entry and what", Check.thrown(() -> desk.about(70, -1)), WRONG);
        CHECK.same("waits of no entry and number", Check.thrown(() -> desk.waits(70, -1)), NO_ENTRY);
        CHECK.same("phase", desk.count(0) > 0, phase);
        CHECK.same("all is as before", Check.whole(desk), before);
    }
}
