/** Promises 6 (claim), 7 (release), OWN's phases and conflicts. Each test stands under the document's words for it. */
public final class OwnTest {
    private static final Check CHECK = new Check();

    public static void main(String[] args) {
        claimOfNoAddress();
        claimOfAnyOther();
        claimWithAPhase();
        phasesGoOn();
        phasesInOneTickCall();
        phasesBeginAnew();
        releaseTellsWhether();
        givenUpByRelease();
        givenUpByConflict();
        noConflictWithoutAPhase();
        conflictInEachPhase();
        conflictWithAProbe();
        noConflictWithOthers();
        probingIsGivenUp();
        firstDefence();
        defenceTicksAgo();
        defenceIsCountedAnew();
        defenceSinceClaimed();
        conflictIsAll();
        phasesGoOnAfterDefence();
        CHECK.end();
    }

    /** "IllegalArgumentException: it is 0 or -1" */
    private static void claimOfNoAddress() {
        NeighbourDesk desk = new NeighbourDesk(4, 5, 6);
        CHECK.refused(desk, "claim 0", IllegalArgumentException.class, () -> desk.claim(0));
        CHECK.refused(desk, "claim -1", IllegalArgumentException.class, () -> desk.claim(-1));
    }

    /** "ADDRESSES are ints, 0 being none." */
    private static void claimOfAnyOther() {
        for (int address : new int[] {1, -2, 2, Integer.MIN_VALUE, Integer.MAX_VALUE, 0xFF000000}) {
            NeighbourDesk desk = new NeighbourDesk(4, 5, 6);
            desk.claim(address);
            CHECK.same("OWN", desk.count(1), address);
            CHECK.same("probe", Check.last(desk), Check.duePacket(Check.ALL, 1, 2, 0, 0, address));
            desk.tick(6);
            CHECK.same("announcement", Check.last(desk), Check.duePacket(Check.ALL, 1, 2, address, 0, address));
        }
    }

    /** "IllegalStateException: there is a PHASE" */
    private static void claimWithAPhase() {
        NeighbourDesk desk = new NeighbourDesk(4, 5, 6);
        desk.claim(Integer.MIN_VALUE);
        for (int phase = 1; phase <= 3; phase++) {
            CHECK.same("phase", desk.count(0), phase);
            CHECK.refused(desk, "another", IllegalStateException.class, () -> desk.claim(5));
            CHECK.refused(desk, "the same", IllegalStateException.class, () -> desk.claim(Integer.MIN_VALUE));
            desk.tick(phase == 1 ? 6 : 2);
        }
    }

    /** "a PROBE goes out at once, 2 and 4 ticks later; 6 ticks later an ANNOUNCEMENT ...; 8 ticks later another" */
    private static void phasesGoOn() {
        NeighbourDesk desk = new NeighbourDesk(4, 5, 6);
        desk.tick(7);
        desk.claim(Check.OWN);
        int[] frames = {1, 1, 2, 2, 3, 3, 4, 4, 5, 5, 5};
        int[] phases = {1, 1, 1, 1, 1, 1, 2, 2, 3, 3, 3};
        for (int passed = 0; passed <= 10; passed++) {
            CHECK.same("frames after " + passed, desk.count(4), frames[passed]);
            CHECK.same("phase after " + passed, desk.count(0), phases[passed]);
            CHECK.same("own after " + passed, desk.count(1), Check.OWN);
            desk.tick(1);
        }
        desk.tick(40);
        CHECK.same("nothing more goes out", desk.count(4), 5);
        for (int i = 0; i < 5; i++) {
            CHECK.same("frame " + i, Check.frame(desk, i), i < 3 ? Check.dueProbe() : Check.dueAnnouncement());
        }
    }

    /** "So many TICKS": each of them does what is told, in one call as well */
    private static void phasesInOneTickCall() {
        NeighbourDesk desk = new NeighbourDesk(4, 5, 6);
        desk.claim(Check.OWN);
        desk.tick(40);
        CHECK.same("kept", Check.look(desk), "counts 3 " + Check.OWN + " 40 0 5 0 0 -1");
        for (int i = 0; i < 5; i++) {
            CHECK.same("frame " + i, Check.frame(desk, i), i < 3 ? Check.dueProbe() : Check.dueAnnouncement());
        }
    }

    /** "Claimed, it PROBES: a PROBE goes out at once": at each claim */
    private static void phasesBeginAnew() {
        for (int ticks = 0; ticks <= 9; ticks++) {
            NeighbourDesk desk = new NeighbourDesk(4, 5, 6);
            desk.claim(5);
            desk.tick(ticks);
            desk.release();
            int before = desk.count(4);
            desk.tick(3);
            CHECK.same("none without a phase", desk.count(4), before);
            desk.claim(Check.OWN);
            CHECK.same("at once", desk.count(4), before + 1);
            desk.tick(5);
            CHECK.same("5 ticks later", desk.count(0), 1);
            desk.tick(1);
            CHECK.same("6 ticks later", Check.look(desk),
                    "counts 2 " + Check.OWN + " " + (ticks + 9) + " 0 " + (before + 4) + " 0 0 -1");
        }
    }

    /** "OWN is given up: whether there was a PHASE." */
    private static void releaseTellsWhether() {
        NeighbourDesk desk = new NeighbourDesk(4, 50, 50);
        CHECK.same("release of nothing", desk.release(), false);
        for (int ticks : new int[] {0, 6, 8}) {
            desk.claim(Check.OWN);
            desk.tick(ticks);
            CHECK.same("release after " + ticks, desk.release(), true);
            CHECK.same("release again", desk.release(), false);
            CHECK.same("phase", desk.count(0), 0);
            CHECK.same("own", desk.count(1), 0);
        }
        desk.claim(Check.OWN);
        Check.hear(desk, 1, 9, Check.OWN, 0);
        CHECK.same("release of what a conflict took", desk.release(), false);
    }

    /** "When it is given up, there is none, and all ENTRIES go." */
    private static void givenUpByRelease() {
        NeighbourDesk desk = ofAllKinds();
        desk.release();
        CHECK.same("all go", Check.look(desk), "counts 0 0 15 0 9 4 0 -1");
        checkAllGone(desk);
    }

    /** "otherwise it is given up": "all ENTRIES go" */
    private static void givenUpByConflict() {
        NeighbourDesk desk = ofAllKinds();
        Check.hear(desk, 1, 9, Check.OWN, 0);
        CHECK.same("defended, all stay", Check.order(desk), "46 48 47 49 4a");
        Check.hear(desk, 1, 9, Check.OWN, 0);
        CHECK.same("all go", Check.look(desk), "counts 0 0 15 0 10 4 0 15");
        checkAllGone(desk);
    }

    /** An old one (70), asked ones (72, 71 used later), a checked one (73) and a good one (74). */
    private static NeighbourDesk ofAllKinds() {
        NeighbourDesk desk = Check.kept(6, 5, 50);
        Check.meet(desk, 9, 70);
        Check.meet(desk, 9, 73);
        desk.tick(5);
        desk.tick(2);
        desk.send(71, 1);
        desk.send(72, 2);
        desk.send(72, 3);
        desk.send(71, 4);
        desk.send(73, 5);
        Check.meet(desk, 9, 74);
        CHECK.same("order", Check.order(desk), "46 48 47 49 4a");
        return desk;
    }

    private static void checkAllGone(NeighbourDesk desk) {
        CHECK.same("lost in the order of use", Check.losses(desk), "2 3 1 4");
        for (int address = 70; address <= 74; address++) {
            CHECK.same("nothing known", desk.knows(address), false);
        }
        int frames = desk.count(4);
        desk.tick(40);
        CHECK.same("nothing more goes out", desk.count(4), frames);
        CHECK.same("nothing more is lost", desk.count(5), 4);
    }

    /** "a CONFLICT, if there is a PHASE" */
    private static void noConflictWithoutAPhase() {
        NeighbourDesk desk = new NeighbourDesk(4, 5, 6);
        CHECK.same("address 0, as OWN without", Check.hear(desk, 1, 9, 0, 0), 0);
        CHECK.same("an answer from 0", Check.hear(desk, 2, 9, 0, 0), 0);
        desk.claim(Check.OWN);
        desk.release();
        CHECK.same("what was OWN", Check.hear(desk, 1, 9, Check.OWN, Check.OWN), 0);
        CHECK.same("a probe for it", Check.hear(desk, 1, 9, 0, Check.OWN), 0);
        CHECK.same("nothing changes", Check.look(desk), "counts 0 0 0 0 1 0 0 -1");
    }

    /** "and its sender's address is OWN" */
    private static void conflictInEachPhase() {
        for (int ticks : new int[] {0, 5, 6, 7, 8, 30}) {
            for (int operation = 1; operation <= 2; operation++) {
                for (int goal : new int[] {0, Check.OWN, Check.OTHER}) {
                    NeighbourDesk desk = new NeighbourDesk(4, 5, 6);
                    desk.claim(Check.OWN);
                    desk.tick(ticks);
                    CHECK.same("conflict " + ticks, Check.hear(desk, operation, 9, Check.OWN, goal), 2);
                }
            }
        }
    }

    /** "or (PHASE 1) it asks with the sender's address 0 for OWN" */
    private static void conflictWithAProbe() {
        int[][] dueAfter = {{0, 2}, {5, 2}, {6, 0}, {7, 0}, {8, 0}, {30, 0}};
        for (int[] pair : dueAfter) {
            NeighbourDesk desk = new NeighbourDesk(4, 5, 6);
            desk.claim(Check.OWN);
            desk.tick(pair[0]);
            CHECK.same("a probe after " + pair[0], Check.hear(desk, 1, 9, 0, Check.OWN), pair[1]);
        }
    }

    /** The words of a CONFLICT one by one: an answer, another's address, a sender's address that is not 0 */
    private static void noConflictWithOthers() {
        NeighbourDesk desk = new NeighbourDesk(4, 5, 6);
        desk.claim(Check.OWN);
        CHECK.same("another's probe", Check.hear(desk, 1, 9, 0, Check.OTHER), 0);
        CHECK.same("a probe for 0", Check.hear(desk, 1, 9, 0, 0), 0);
        CHECK.same("an answer from 0", Check.hear(desk, 2, 9, 0, Check.OWN), 0);
        CHECK.same("a question from another", Check.hear(desk, 1, 9, Check.OTHER, Check.OWN), 0);
        CHECK.same("an answer from another", Check.hear(desk, 2, 9, Check.OTHER, Check.OWN), 0);
        CHECK.same("a question from -1", Check.hear(desk, 1, 9, -1, Check.OWN), 0);
        CHECK.same("nothing changes", Check.look(desk), "counts 1 " + Check.OWN + " 0 0 1 0 0 -1");
    }

    /** "PROBING, OWN is given up" */
    private static void probingIsGivenUp() {
        for (int ticks = 0; ticks <= 5; ticks++) {
            for (int from : new int[] {0, Check.OWN}) {
                NeighbourDesk desk = new NeighbourDesk(4, 5, 6);
                desk.claim(Check.OWN);
                desk.tick(ticks);
                int frames = desk.count(4);
                CHECK.same("conflict", Check.hear(desk, 1, 9, from, Check.OWN), 2);
                CHECK.same("given up", Check.look(desk), "counts 0 0 " + ticks + " 0 " + frames + " 0 0 -1");
                desk.tick(10);
                CHECK.same("quiet", desk.count(4), frames);
            }
        }
    }

    /** "else, if OWN was not DEFENDED yet ..., an ANNOUNCEMENT goes out, and it is DEFENDED" */
    private static void firstDefence() {
        for (int ticks : new int[] {6, 7, 8, 9, 17, 18, 40}) {
            NeighbourDesk desk = new NeighbourDesk(4, 50, 50);
            desk.claim(Check.OWN);
            desk.tick(ticks);
            int frames = desk.count(4);
            int phase = desk.count(0);
            CHECK.same("conflict", Check.hear(desk, 1, 9, Check.OWN, Check.OWN), 2);
            CHECK.same("announced", Check.last(desk), Check.dueAnnouncement());
            CHECK.same("once, and no reply", Check.look(desk), "counts " + phase + " " + Check.OWN + " " + ticks
                    + " 0 " + (frames + 1) + " 0 0 " + ticks);
        }
    }

    /** "or 10 ticks ago or more, ...; otherwise it is given up" */
    private static void defenceTicksAgo() {
        for (int passed : new int[] {0, 1, 8, 9, 10, 11, 12, 20, 39, 40}) {
            NeighbourDesk desk = Check.kept(4, 50, 50);
            Check.hear(desk, 2, 9, Check.OWN, Check.OTHER);
            desk.tick(passed);
            CHECK.same("conflict " + passed, Check.hear(desk, 2, 9, Check.OWN, Check.OTHER), 2);
            String due = passed >= 10
                    ? "counts 3 " + Check.OWN + " " + (8 + passed) + " 0 7 0 0 " + (8 + passed)
                    : "counts 0 0 " + (8 + passed) + " 0 6 0 0 8";
            CHECK.same("after " + passed, Check.look(desk), due);
            CHECK.same("the latest frame", Check.last(desk), Check.dueAnnouncement());
        }
    }

    /** "and it is DEFENDED": each defence begins the 10 ticks again */
    private static void defenceIsCountedAnew() {
        NeighbourDesk desk = Check.kept(4, 50, 50);
        Check.hear(desk, 1, 9, Check.OWN, 0);
        desk.tick(10);
        Check.hear(desk, 1, 9, Check.OWN, 0);
        desk.tick(10);
        Check.hear(desk, 1, 9, Check.OWN, 0);
        CHECK.same("defended three times", Check.look(desk), "counts 3 " + Check.OWN + " 28 0 8 0 0 28");
        desk.tick(9);
        Check.hear(desk, 1, 9, Check.OWN, 0);
        CHECK.same("given up", Check.look(desk), "counts 0 0 37 0 8 0 0 28");
    }

    /** "not DEFENDED yet (since it was claimed)" */
    private static void defenceSinceClaimed() {
        NeighbourDesk desk = Check.kept(4, 50, 50);
        Check.hear(desk, 1, 9, Check.OWN, 0);
        desk.release();
        desk.claim(Check.OTHER);
        desk.tick(6);
        CHECK.same("6 ticks after the other one's defence", Check.hear(desk, 1, 9, Check.OTHER, 0), 2);
        CHECK.same("defended", desk.count(7), 14);
        CHECK.same("not given up", desk.count(0), 2);
    }

    /** "That is all.": nothing is learned, no data and no reply go out */
    private static void conflictIsAll() {
        NeighbourDesk desk = Check.kept(4, 50, 50);
        desk.send(Check.FRIEND, 1);
        CHECK.same("conflict", Check.hear(desk, 1, 9, Check.OWN, Check.OWN), 2);
        CHECK.same("the asked one stays", Check.look(desk), "counts 3 " + Check.OWN + " 8 1 7 0 1 8, "
                + "a000002 kind 1 waiting 1 since 8 used 8 at 0");
        CHECK.same("the latest frame", Check.last(desk), Check.dueAnnouncement());
    }

    /** A conflict that is met by an ANNOUNCEMENT leaves the phases as they are told. */
    private static void phasesGoOnAfterDefence() {
        NeighbourDesk desk = new NeighbourDesk(4, 50, 50);
        desk.claim(Check.OWN);
        desk.tick(6);
        Check.hear(desk, 1, 9, Check.OWN, 0);
        desk.tick(1);
        CHECK.same("it still announces", desk.count(0), 2);
        desk.tick(1);
        CHECK.same("8 ticks later it is kept", Check.look(desk), "counts 3 " + Check.OWN + " 8 0 6 0 0 6");
    }
}
