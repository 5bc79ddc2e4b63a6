/** Promise 6 (claim), promise 7 (release) and OWN's part of promises 5 (hear) and 9 (tick). */
public final class OwnTest {
    private static final Check CHECK = new Check();

    public static void main(String[] args) {
        claimIsRefused();
        claimGoesOn();
        claimAgain();
        release();
        conflictWhileProbing();
        noConflict();
        defence();
        defenceWhileAnnouncing();
        claimForgetsDefence();
        CHECK.end();
    }

    private static void claimIsRefused() {
        NeighbourDesk desk = new NeighbourDesk(4, 5, 6);
        CHECK.refused(desk, "claim 0", IllegalArgumentException.class, () -> desk.claim(0));
        CHECK.refused(desk, "claim -1", IllegalArgumentException.class, () -> desk.claim(-1));
        desk.claim(Integer.MIN_VALUE);
        for (int phase = 1; phase <= 3; phase++) {
            CHECK.same("phase", desk.count(0), phase);
            CHECK.refused(desk, "claim twice", IllegalStateException.class, () -> desk.claim(5));
            CHECK.refused(desk, "claim 0 with a phase", IllegalArgumentException.class, () -> desk.claim(0));
            desk.tick(phase == 1 ? 6 : 2);
        }
    }

    private static void claimGoesOn() {
        NeighbourDesk desk = new NeighbourDesk(4, 5, 6);
        desk.tick(7);
        desk.claim(Check.OWN);
        int[] frames = {1, 1, 2, 2, 3, 3, 4, 4, 5, 5, 5};
        int[] phases = {1, 1, 1, 1, 1, 1, 2, 2, 3, 3, 3};
        for (int passed = 0; passed <= 10; passed++) {
            CHECK.same("frames after " + passed, desk.count(4), frames[passed]);
            CHECK.same("phase after " + passed, desk.count(0), phases[passed]);
            CHECK.same("own after " + passed, desk.count(1), Check.OWN);
            desk.tick(1);
        }
        desk.tick(40);
        CHECK.same("nothing more goes out", desk.count(4), 5);
        for (int i = 0; i < 5; i++) {
            CHECK.same("frame " + i, Check.frame(desk, i), i < 3 ? Check.dueProbe() : Check.dueAnnouncement());
        }
    }

    private static void claimAgain() {
        NeighbourDesk desk = new NeighbourDesk(4, 5, 6);
        desk.claim(5);
        desk.tick(3);
        desk.release();
        desk.tick(3);
        CHECK.same("none without a phase", desk.count(4), 2);
        desk.claim(Check.OWN);
        desk.tick(6);
        CHECK.same("the ticks begin anew", Check.look(desk), "counts 2 " + Check.OWN + " 12 0 6 0 0 -1");
    }

    private static void release() {
        NeighbourDesk desk = new NeighbourDesk(4, 50, 50);
        CHECK.same("release of nothing", desk.release(), false);
        for (int ticks : new int[] {0, 6, 8}) {
            desk.claim(Check.OWN);
            desk.tick(ticks);
            CHECK.same("release after " + ticks, desk.release(), true);
            CHECK.same("release again", desk.release(), false);
            CHECK.same("phase", desk.count(0), 0);
            CHECK.same("own", desk.count(1), 0);
        }
        desk.claim(Check.OWN);
        desk.tick(8);
        Check.meet(desk, 9, 70);
        desk.send(71, 1);
        desk.send(72, 2);
        desk.send(71, 3);
        CHECK.same("order", Check.order(desk), "46 48 47");
        CHECK.same("release", desk.release(), true);
        CHECK.same("entries", desk.count(3), 0);
        CHECK.same("waiting", desk.count(6), 0);
        CHECK.same("lost in the order of use", Check.losses(desk), "2 1 3");
        CHECK.same("nothing known", desk.knows(70), false);
    }

    private static void conflictWhileProbing() {
        for (int kind = 0; kind < 3; kind++) {
            NeighbourDesk desk = new NeighbourDesk(4, 5, 6);
            desk.claim(Check.OWN);
            desk.tick(5);
            int operation = kind == 2 ? 2 : 1;
            int from = kind == 0 ? 0 : Check.OWN;
            int goal = kind == 0 ? Check.OWN : Check.OTHER;
            CHECK.same("conflict " + kind, Check.hear(desk, operation, 9, from, goal), 2);
            CHECK.same("given up " + kind, Check.look(desk), "counts 0 0 5 0 3 0 0 -1");
            desk.tick(10);
            CHECK.same("quiet " + kind, desk.count(4), 3);
        }
    }

    private static void noConflict() {
        NeighbourDesk desk = new NeighbourDesk(4, 5, 6);
        CHECK.same("no phase, address 0", Check.hear(desk, 1, 9, 0, 0), 0);
        CHECK.same("no phase", Check.hear(desk, 1, 9, Check.OWN, Check.OWN), 0);
        desk.claim(Check.OWN);
        CHECK.same("another's probe", Check.hear(desk, 1, 9, 0, Check.OTHER), 0);
        CHECK.same("an answer from 0", Check.hear(desk, 2, 9, 0, Check.OWN), 0);
        CHECK.same("a question from another", Check.hear(desk, 1, 9, Check.OTHER, Check.OWN), 0);
        CHECK.same("probing, nothing is learned and no reply goes", Check.look(desk),
                "counts 1 " + Check.OWN + " 0 0 1 0 0 -1");
        desk.tick(6);
        CHECK.same("a probe for OWN, announcing", Check.hear(desk, 1, 9, 0, Check.OWN), 0);
        CHECK.same("its reply", Check.last(desk), Check.duePacket(9, 2, 2, Check.OWN, 9, 0));
        CHECK.same("0 gets no entry", desk.count(3), 0);
    }

    private static void defence() {
        NeighbourDesk desk = Check.kept(4, 50, 50);
        desk.send(Check.FRIEND, 1);
        CHECK.same("first", Check.hear(desk, 1, 9, Check.OWN, Check.OWN), 2);
        CHECK.same("announced, and no reply", Check.last(desk), Check.dueAnnouncement());
        CHECK.same("one frame", desk.count(4), 7);
        CHECK.same("defended", desk.count(7), 8);
        Check.meet(desk, 9, Check.FRIEND);
        desk.tick(10);
        CHECK.same("10 ticks later", Check.hear(desk, 2, 9, Check.OWN, Check.OTHER), 2);
        CHECK.same("defended again", desk.count(7), 18);
        CHECK.same("still kept", desk.count(0), 3);
        desk.tick(9);
        CHECK.same("9 ticks later", Check.hear(desk, 2, 9, Check.OWN, Check.OTHER), 2);
        CHECK.same("given up", Check.look(desk), "counts 0 0 27 0 9 0 0 18");
    }

    private static void defenceWhileAnnouncing() {
        NeighbourDesk desk = new NeighbourDesk(4, 50, 50);
        desk.claim(Check.OWN);
        desk.tick(6);
        desk.send(Check.FRIEND, 7);
        CHECK.same("announcing", Check.hear(desk, 1, 9, Check.OWN, 0), 2);
        CHECK.same("it goes on", Check.look(desk), "counts 2 " + Check.OWN + " 6 1 6 0 1 6, "
                + "a000002 kind 1 waiting 1 since 6 used 6 at 0");
        CHECK.same("at once again", Check.hear(desk, 1, 9, Check.OWN, 0), 2);
        CHECK.same("given up", Check.look(desk), "counts 0 0 6 0 6 1 0 6");
        CHECK.same("the one that waited is lost", desk.lost(0), 7);
    }

    private static void claimForgetsDefence() {
        NeighbourDesk desk = Check.kept(4, 50, 50);
        Check.hear(desk, 1, 9, Check.OWN, 0);
        desk.release();
        CHECK.same("told until the next claim", desk.count(7), 8);
        desk.claim(Check.OTHER);
        CHECK.same("not defended since", desk.count(7), -1);
        desk.tick(6);
        CHECK.same("conflict", Check.hear(desk, 1, 9, Check.OTHER, 0), 2);
        CHECK.same("defended", desk.count(7), 14);
        CHECK.same("not given up", desk.count(0), 2);
    }
}
