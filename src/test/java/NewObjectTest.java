/** Promises 1 (a new object), 2 (here) and 10 (count). Each test stands under the document's words for it. */
public final class NewObjectTest {
    private static final Check CHECK = new Check();

    public static void main(String[] args) {
        atFirst();
        mostCallsInTime();
        mostCallsInFrames();
        capacity();
        reach();
        age();
        hereIsNotAsSaid();
        hereWithAPhase();
        hereIsLeastAndGreatest();
        hereIsTheLatest();
        countOfAnother();
        countPhaseAndOwn();
        countTime();
        countEntriesAndWaiting();
        countFramesBeyond100();
        countLostBeyond100();
        countDefended();
        CHECK.end();
    }

    /** "HERE is 2 at first. TIME is 0 at first." "there is none", "the TAPE (at first empty)" */
    private static void atFirst() {
        NeighbourDesk desk = new NeighbourDesk(4, 5, 6);
        CHECK.same("a new desk", Check.look(desk), "counts 0 0 0 0 0 0 0 -1");
        CHECK.same("tape", desk.type(0, 1), 1);
        CHECK.same("HERE is 2, so it is bad", Check.hear(desk, 1, 2, 5, 6), 1);
        CHECK.same("1 is not", Check.hear(desk, 1, 1, 5, 6), 0);
        desk.claim(Check.OWN);
        CHECK.same("HERE is 2", Check.last(desk), Check.duePacket(Check.ALL, 1, 2, 0, 0, Check.OWN));
    }

    /** "An object is used for at most 512 calls after it has been made" */
    private static void mostCallsInTime() {
        NeighbourDesk desk = new NeighbourDesk(32, 1000, 1000);
        for (int i = 1; i < 512; i++) {
            CHECK.same("call " + i, desk.tick(40), 40 * i);
        }
        CHECK.same("call 512", desk.count(2), 20440);
    }

    /** "An object is used for at most 512 calls after it has been made" */
    private static void mostCallsInFrames() {
        NeighbourDesk desk = Check.kept(32, 1000, 1000);
        for (int round = 0; round < 13; round++) {
            for (int i = 0; i < 32; i++) {
                desk.send(100 + i, 1000 * round + i);
            }
            desk.tick(6);
        }
        CHECK.same("frames", desk.count(4), 5 + 13 * 96);
        CHECK.same("lost", desk.count(5), 13 * 32);
        CHECK.same("the oldest lost one", desk.lost(0), 9028);
        CHECK.same("the latest lost one", desk.lost(99), 12031);
        CHECK.same("the oldest frame", Check.frame(desk, 0), Check.dueRequest(Check.ALL, 128));
        CHECK.same("the latest frame", Check.frame(desk, 99), Check.dueRequest(Check.ALL, 131));
    }

    /** "CAPACITY the nearest of 1 .. 32" */
    private static void capacity() {
        int[][] pairs = {{Integer.MIN_VALUE, 1}, {-1, 1}, {0, 1}, {1, 1}, {2, 2}, {31, 31}, {32, 32}, {33, 32},
            {Integer.MAX_VALUE, 32}};
        for (int[] pair : pairs) {
            NeighbourDesk desk = Check.kept(pair[0], 5, 6);
            for (int i = 0; i < 40; i++) {
                CHECK.same("send " + i + " with capacity " + pair[0], desk.send(100 + i, i), i < pair[1] ? 1 : 2);
            }
            CHECK.same("entries with capacity " + pair[0], desk.count(3), pair[1]);
        }
    }

    /** "REACH and AGE the nearest of 1 .. 1000" */
    private static void reach() {
        int[][] pairs = {{Integer.MIN_VALUE, 1}, {-1, 1}, {0, 1}, {1, 1}, {2, 2}, {999, 999}, {1000, 1000},
            {1001, 1000}, {Integer.MAX_VALUE, 1000}};
        for (int[] pair : pairs) {
            NeighbourDesk desk = Check.kept(4, pair[0], 1000);
            Check.meet(desk, 9, Check.FRIEND);
            pass(desk, pair[1] - 1);
            CHECK.same("before reach " + pair[0], desk.about(Check.FRIEND, 0), NeighbourDesk.GOOD);
            desk.tick(1);
            CHECK.same("after reach " + pair[0], desk.about(Check.FRIEND, 0), NeighbourDesk.OLD);
        }
    }

    /** "REACH and AGE the nearest of 1 .. 1000" */
    private static void age() {
        // An entry is looked at as an old one from tick 2 on, so 1 shows as 2.
        int[][] pairs = {{Integer.MIN_VALUE, 2}, {-1, 2}, {0, 2}, {1, 2}, {2, 2}, {3, 3}, {999, 999}, {1000, 1000},
            {1001, 1000}, {Integer.MAX_VALUE, 1000}};
        for (int[] pair : pairs) {
            NeighbourDesk desk = Check.kept(4, 1, pair[0]);
            Check.meet(desk, 9, Check.FRIEND);
            pass(desk, pair[1] - 1);
            CHECK.same("before age " + pair[0], desk.knows(Check.FRIEND), true);
            desk.tick(1);
            CHECK.same("after age " + pair[0], desk.knows(Check.FRIEND), false);
        }
    }

    private static void pass(NeighbourDesk desk, int ticks) {
        for (int i = 0; i < ticks / 40; i++) {
            desk.tick(40);
        }
        desk.tick(ticks % 40);
    }

    /** "IllegalArgumentException: it is not 1 .. 2^48 - 2" */
    private static void hereIsNotAsSaid() {
        NeighbourDesk desk = new NeighbourDesk(4, 5, 6);
        for (long bad : new long[] {0, -1, Check.ALL, Check.ALL + 1, Check.ALL + 3, Long.MIN_VALUE, Long.MAX_VALUE}) {
            CHECK.refused(desk, "here " + bad, IllegalArgumentException.class, () -> desk.here(bad));
        }
        CHECK.same("HERE is still 2", Check.hear(desk, 1, 2, 5, 6), 1);
    }

    /** "IllegalStateException: there is a PHASE" */
    private static void hereWithAPhase() {
        NeighbourDesk desk = new NeighbourDesk(4, 5, 6);
        desk.claim(Check.OWN);
        for (int phase = 1; phase <= 3; phase++) {
            CHECK.same("phase", desk.count(0), phase);
            CHECK.refused(desk, "here, phase " + phase, IllegalStateException.class, () -> desk.here(5));
            desk.tick(phase == 1 ? 6 : 2);
        }
        CHECK.same("HERE is still 2", Check.hear(desk, 1, 2, 7, 7), 1);
        desk.release();
        desk.here(5);
        CHECK.same("without a phase it can be told", Check.hear(desk, 1, 5, 7, 7), 1);
    }

    /** "it is not 1 .. 2^48 - 2" */
    private static void hereIsLeastAndGreatest() {
        NeighbourDesk desk = new NeighbourDesk(4, 5, 6);
        for (long good : new long[] {1, 2, Check.ALL - 1, 0x800000000000L}) {
            desk.here(good);
            desk.claim(Check.OWN);
            CHECK.same("HERE", Check.last(desk), Check.duePacket(Check.ALL, 1, good, 0, 0, Check.OWN));
            CHECK.same("HERE is bad", Check.hear(desk, 1, good, 5, 6), 1);
            desk.release();
        }
    }

    /** "HERE, the host's own hardware number" */
    private static void hereIsTheLatest() {
        NeighbourDesk desk = new NeighbourDesk(4, 5, 6);
        desk.here(77);
        desk.here(78);
        CHECK.same("the latest is bad", Check.hear(desk, 1, 78, 5, 6), 1);
        CHECK.same("77 is HERE no more", Check.hear(desk, 1, 77, 5, 6), 0);
        CHECK.same("2 is HERE no more", Check.hear(desk, 1, 2, 5, 6), 0);
        desk.claim(Check.OWN);
        desk.tick(6);
        CHECK.same("a probe", Check.frame(desk, 2), Check.duePacket(Check.ALL, 1, 78, 0, 0, Check.OWN));
        CHECK.same("an announcement", Check.frame(desk, 3), Check.duePacket(Check.ALL, 1, 78, Check.OWN, 0, Check.OWN));
        Check.hear(desk, 1, 9, Check.FRIEND, Check.OWN);
        CHECK.same("a reply", Check.last(desk), Check.duePacket(9, 2, 78, Check.OWN, 9, Check.FRIEND));
    }

    /** "IllegalArgumentException: another what" */
    private static void countOfAnother() {
        NeighbourDesk desk = Check.kept(3, 50, 50);
        for (int bad : new int[] {-1, 8, 9, Integer.MIN_VALUE, Integer.MAX_VALUE}) {
            CHECK.refused(desk, "count " + bad, IllegalArgumentException.class, () -> desk.count(bad));
        }
    }

    /** "PHASE (what = 0), OWN (1; 0 without)" */
    private static void countPhaseAndOwn() {
        NeighbourDesk desk = new NeighbourDesk(4, 5, 6);
        CHECK.same("no OWN", desk.count(1), 0);
        desk.claim(Integer.MIN_VALUE);
        for (int phase = 1; phase <= 3; phase++) {
            CHECK.same("PHASE", desk.count(0), phase);
            CHECK.same("OWN", desk.count(1), Integer.MIN_VALUE);
            desk.tick(phase == 1 ? 6 : 2);
        }
        desk.release();
        CHECK.same("no phase again", desk.count(0), 0);
        CHECK.same("no OWN again", desk.count(1), 0);
    }

    /** "TIME (2)" */
    private static void countTime() {
        NeighbourDesk desk = new NeighbourDesk(4, 5, 6);
        CHECK.same("TIME", desk.count(2), 0);
        desk.tick(0);
        CHECK.same("TIME", desk.count(2), 0);
        desk.tick(40);
        desk.tick(1);
        CHECK.same("TIME", desk.count(2), 41);
    }

    /** "entries (3)", "numbers that wait (6)" */
    private static void countEntriesAndWaiting() {
        NeighbourDesk desk = Check.kept(2, 50, 50);
        int[][] due = {{1, 1}, {1, 2}, {1, 3}, {1, 4}, {1, 4}};
        for (int[] pair : due) {
            desk.send(Check.FRIEND, 1);
            CHECK.same("entries", desk.count(3), pair[0]);
            CHECK.same("waiting", desk.count(6), pair[1]);
        }
        desk.send(Check.OTHER, 2);
        desk.send(70, 3);
        CHECK.same("entries, full", desk.count(3), 2);
        CHECK.same("waiting at both", desk.count(6), 5);
        Check.meet(desk, 9, Check.FRIEND);
        CHECK.same("entries still", desk.count(3), 2);
        CHECK.same("one waits still", desk.count(6), 1);
    }

    /** "frames that went out (4)": all of them, not the latest 100 alone */
    private static void countFramesBeyond100() {
        NeighbourDesk desk = Check.kept(2, 1000, 50);
        Check.meet(desk, 9, Check.FRIEND);
        for (int frames = 6; frames <= 205; frames++) {
            desk.send(Check.FRIEND, frames);
            CHECK.same("frames", desk.count(4), frames);
        }
    }

    /** "numbers LOST (5)": all of them, not the latest 100 alone */
    private static void countLostBeyond100() {
        NeighbourDesk desk = Check.kept(1, 50, 50);
        desk.send(Check.FRIEND, 1);
        for (int lost = 1; lost <= 205; lost++) {
            desk.send(Check.OTHER, lost);
            CHECK.same("lost", desk.count(5), lost);
        }
        CHECK.same("frames", desk.count(4), 6);
    }

    /** "when it was DEFENDED (7; NONE)" */
    private static void countDefended() {
        NeighbourDesk desk = Check.kept(3, 50, 50);
        CHECK.same("not defended", desk.count(7), NeighbourDesk.NONE);
        desk.tick(1);
        CHECK.same("conflict", Check.hear(desk, 2, 9, Check.OWN, 0), 2);
        CHECK.same("defended", desk.count(7), 9);
        desk.tick(12);
        CHECK.same("still when it was", desk.count(7), 9);
        Check.hear(desk, 2, 9, Check.OWN, 0);
        CHECK.same("defended again", desk.count(7), 21);
        desk.release();
        CHECK.same("told on after it is given up", desk.count(7), 21);
        desk.claim(Check.OWN);
        CHECK.same("NONE since it was claimed", desk.count(7), NeighbourDesk.NONE);
    }
}
