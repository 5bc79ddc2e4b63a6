/** Promise 9 (tick): time, and what becomes of entries. */
public final class TickTest {
    private static final Check CHECK = new Check();

    public static void main(String[] args) {
        time();
        asked();
        checked();
        goodAndOld();
        checkedIsAnswered();
        usedOldStays();
        ownBeforeEntries();
        orderOfUse();
        CHECK.end();
    }

    private static void time() {
        NeighbourDesk desk = new NeighbourDesk(4, 5, 6);
        for (int bad : new int[] {-1, 41, Integer.MIN_VALUE, Integer.MAX_VALUE}) {
            CHECK.refused(desk, "tick " + bad, IllegalArgumentException.class, () -> desk.tick(bad));
        }
        CHECK.same("0 ticks", desk.tick(0), 0);
        CHECK.same("1 tick", desk.tick(1), 1);
        CHECK.same("40 ticks", desk.tick(40), 41);
        CHECK.same("time", desk.count(2), 41);
    }

    private static void asked() {
        NeighbourDesk desk = Check.kept(4, 5, 6);
        desk.send(Check.FRIEND, 1);
        desk.tick(1);
        desk.send(Check.FRIEND, 2);
        int[] frames = {6, 6, 7, 7, 8, 8, 8};
        for (int passed = 1; passed < 6; passed++) {
            CHECK.same("frames after " + passed, desk.count(4), frames[passed]);
            CHECK.same("entry after " + passed, Check.entry(desk, Check.FRIEND),
                    "a000002 kind 1 waiting 2 since 8 used 9 at 0");
            desk.tick(1);
        }
        CHECK.same("it is gone", Check.look(desk), "counts 3 " + Check.OWN + " 14 0 8 2 0 -1");
        CHECK.same("lost", Check.losses(desk), "1 2");
        for (int i = 5; i < 8; i++) {
            CHECK.same("request " + i, Check.frame(desk, i), Check.dueRequest(Check.ALL, Check.FRIEND));
        }
    }

    private static void checked() {
        NeighbourDesk desk = Check.kept(4, 2, 50);
        Check.meet(desk, 9, Check.FRIEND);
        desk.tick(3);
        desk.send(Check.FRIEND, 1);
        int[] frames = {7, 8, 9};
        for (int passed = 0; passed < 3; passed++) {
            CHECK.same("frames after " + passed, desk.count(4), frames[passed]);
            CHECK.same("request", Check.last(desk), Check.dueRequest(9, Check.FRIEND));
            CHECK.same("kind", Check.entry(desk, Check.FRIEND), "a000002 kind 4 waiting 0 since 11 used 11 at 9");
            desk.tick(1);
        }
        CHECK.same("it is gone", Check.look(desk), "counts 3 " + Check.OWN + " 14 0 9 0 0 -1");
    }

    private static void goodAndOld() {
        NeighbourDesk desk = Check.kept(4, 3, 5);
        Check.meet(desk, 9, Check.FRIEND);
        desk.tick(2);
        CHECK.same("good", Check.entry(desk, Check.FRIEND), "a000002 kind 2 waiting 0 since 8 used 8 at 9");
        desk.tick(1);
        CHECK.same("old", Check.entry(desk, Check.FRIEND), "a000002 kind 3 waiting 0 since 11 used 8 at 9");
        desk.tick(1);
        CHECK.same("still old", desk.about(Check.FRIEND, 0), NeighbourDesk.OLD);
        desk.tick(1);
        CHECK.same("gone", desk.count(3), 0);
        CHECK.same("nothing went out", desk.count(4), 5);

        NeighbourDesk brief = Check.kept(4, 9, 2);
        Check.meet(brief, 9, Check.FRIEND);
        brief.tick(8);
        CHECK.same("good as long as reach", brief.about(Check.FRIEND, 0), NeighbourDesk.GOOD);
        brief.tick(1);
        CHECK.same("old, and looked at so a tick later", brief.about(Check.FRIEND, 0), NeighbourDesk.OLD);
        brief.tick(1);
        CHECK.same("gone, more than age behind", brief.count(3), 0);
    }

    private static void checkedIsAnswered() {
        NeighbourDesk desk = Check.kept(4, 2, 50);
        Check.meet(desk, 9, Check.FRIEND);
        desk.tick(2);
        desk.send(Check.FRIEND, 1);
        desk.tick(2);
        CHECK.same("answer", Check.hear(desk, 2, 11, Check.FRIEND, Check.OWN), 0);
        CHECK.same("good again", Check.entry(desk, Check.FRIEND), "a000002 kind 2 waiting 0 since 12 used 10 at 11");
        desk.tick(1);
        CHECK.same("still good", desk.about(Check.FRIEND, 0), NeighbourDesk.GOOD);
        desk.tick(1);
        CHECK.same("old again", Check.entry(desk, Check.FRIEND), "a000002 kind 3 waiting 0 since 14 used 10 at 11");
    }

    private static void usedOldStays() {
        NeighbourDesk desk = Check.kept(4, 2, 6);
        Check.meet(desk, 9, Check.FRIEND);
        desk.tick(1);
        desk.send(Check.FRIEND, 1);
        desk.tick(5);
        CHECK.same("age is counted from use", desk.knows(Check.FRIEND), true);
        desk.tick(1);
        CHECK.same("gone", desk.knows(Check.FRIEND), false);
    }

    private static void ownBeforeEntries() {
        NeighbourDesk desk = new NeighbourDesk(4, 50, 50);
        desk.claim(Check.OWN);
        desk.tick(6);
        desk.send(Check.FRIEND, 1);
        desk.tick(2);
        CHECK.same("OWN first", Check.frame(desk, 5), Check.dueAnnouncement());
        CHECK.same("then the entry", Check.frame(desk, 6), Check.dueRequest(Check.ALL, Check.FRIEND));
    }

    private static void orderOfUse() {
        NeighbourDesk desk = Check.kept(4, 50, 50);
        desk.send(61, 1);
        desk.send(62, 2);
        desk.send(63, 3);
        desk.send(61, 4);
        desk.tick(2);
        int[] turn = {62, 63, 61};
        for (int i = 0; i < 3; i++) {
            CHECK.same("request " + i, Check.frame(desk, 8 + i), Check.dueRequest(Check.ALL, turn[i]));
        }
        Check.meet(desk, 9, 63);
        desk.tick(4);
        CHECK.same("lost", Check.losses(desk), "2 1 4");
        CHECK.same("the known one stays", Check.order(desk), "3f");
    }
}
