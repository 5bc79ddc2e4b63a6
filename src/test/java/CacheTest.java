/**
 * Promises 11 to 14 (entry, about, hardware, knows) and what a packet that is heard does to entries.
 * Each test stands under the document's words for it.
 */
public final class CacheTest {
    private static final Check CHECK = new Check();
    private static final Class<?> NO_ENTRY = java.util.NoSuchElementException.class;

    public static void main(String[] args) {
        entryOutside();
        entriesInOrderOfUse();
        aboutOfAnotherWhat();
        aboutWithoutEntry();
        aboutTellsEach();
        hardwareWithoutEntry();
        hardwareOfEachKind();
        knowsEachKind();
        oneForAnAddress();
        heardWithAnEntry();
        heardDataInTurn();
        heardIsNoUse();
        notForOwn();
        notBeforeAnnouncing();
        forOwnFromNoAddress();
        forOwnFromAStranger();
        forOwnAsksOrAnswers();
        atMostCapacity();
        roomByEachKind();
        roomPassesOverAsked();
        noRoom();
        anEntryNeedsNoRoom();
        fullOfCapacity32();
        dataThenReply();
        CHECK.end();
    }

    /** "IndexOutOfBoundsException: there is no such ... entry" */
    private static void entryOutside() {
        for (int entries = 0; entries <= 3; entries++) {
            NeighbourDesk desk = Check.kept(3, 50, 50);
            for (int i = 0; i < entries; i++) {
                desk.send(60 + i, 1);
            }
            for (int bad : new int[] {-1, entries, 4, 32, Integer.MIN_VALUE, Integer.MAX_VALUE}) {
                CHECK.refused(desk, "entry " + bad, IndexOutOfBoundsException.class, () -> desk.entry(bad));
            }
            desk.release();
            CHECK.refused(desk, "entry 0 when all went", IndexOutOfBoundsException.class, () -> desk.entry(0));
        }
    }

    /** "They stand in the order of USE, the one used longest ago first (made is used)." */
    private static void entriesInOrderOfUse() {
        NeighbourDesk desk = Check.kept(3, 50, 50);
        desk.send(Check.FRIEND, 1);
        Check.meet(desk, 9, Check.OTHER);
        desk.send(-5, 1);
        CHECK.same("made in turn", Check.order(desk), "a000002 a000003 fffffffb");
        desk.send(Check.FRIEND, 2);
        CHECK.same("the first one used", Check.order(desk), "a000003 fffffffb a000002");
        desk.send(-5, 2);
        CHECK.same("the middle one used", Check.order(desk), "a000003 a000002 fffffffb");
        desk.send(-5, 3);
        CHECK.same("the last one used", Check.order(desk), "a000003 a000002 fffffffb");
        desk.tick(1);
        desk.send(Check.OTHER, 3);
        CHECK.same("a good one used", Check.order(desk), "a000002 fffffffb a000003");
    }

    /** "IllegalArgumentException: another what; NoSuchElementException." */
    private static void aboutOfAnotherWhat() {
        NeighbourDesk desk = Check.kept(3, 50, 50);
        for (int bad : new int[] {-1, 4, Integer.MIN_VALUE, Integer.MAX_VALUE}) {
            CHECK.refused(desk, "about " + bad, IllegalArgumentException.class, () -> desk.about(Check.FRIEND, bad));
        }
        desk.send(Check.FRIEND, 1);
        for (int bad : new int[] {-1, 4, Integer.MIN_VALUE, Integer.MAX_VALUE}) {
            CHECK.refused(desk, "about " + bad, IllegalArgumentException.class, () -> desk.about(Check.FRIEND, bad));
        }
    }

    /** "NoSuchElementException: there is no entry." */
    private static void aboutWithoutEntry() {
        NeighbourDesk desk = Check.kept(3, 50, 50);
        desk.send(Check.OTHER, 1);
        for (int what = 0; what < 4; what++) {
            int asked = what;
            for (int address : new int[] {Check.FRIEND, 0, -1, Check.OWN}) {
                CHECK.same("about " + address, Check.thrown(() -> desk.about(address, asked)), NO_ENTRY);
            }
        }
        CHECK.refused(desk, "about", NO_ENTRY, () -> desk.about(Check.FRIEND, 0));
    }

    /** "how many wait (1), since when it is that (2; of ASKED and CHECKED ones the first REQUEST), ... used (3)" */
    private static void aboutTellsEach() {
        NeighbourDesk desk = Check.kept(3, 4, 50);
        desk.send(Check.FRIEND, 1);
        desk.send(Check.FRIEND, 2);
        desk.tick(3);
        desk.send(Check.FRIEND, 3);
        CHECK.same("asked", Check.entry(desk, Check.FRIEND), "a000002 kind 1 waiting 3 since 8 used 11 at 0");
        desk.tick(1);
        Check.meet(desk, 9, Check.FRIEND);
        CHECK.same("good", Check.entry(desk, Check.FRIEND), "a000002 kind 2 waiting 0 since 12 used 11 at 9");
        desk.tick(5);
        CHECK.same("old", Check.entry(desk, Check.FRIEND), "a000002 kind 3 waiting 0 since 16 used 11 at 9");
        desk.send(Check.FRIEND, 4);
        desk.tick(1);
        desk.send(Check.FRIEND, 5);
        CHECK.same("checked", Check.entry(desk, Check.FRIEND), "a000002 kind 4 waiting 0 since 17 used 18 at 9");
    }

    /** "NoSuchElementException" */
    private static void hardwareWithoutEntry() {
        NeighbourDesk desk = Check.kept(3, 50, 50);
        desk.send(Check.OTHER, 1);
        for (int address : new int[] {Check.FRIEND, 0, -1, Check.OWN}) {
            CHECK.refused(desk, "hardware of " + address, NO_ENTRY, () -> desk.hardware(address));
        }
        desk.tick(6);
        CHECK.refused(desk, "hardware of what went", NO_ENTRY, () -> desk.hardware(Check.OTHER));
    }

    /** "The hardware number of an address's entry; 0 if it is ASKED." */
    private static void hardwareOfEachKind() {
        NeighbourDesk desk = Check.kept(1, 2, 50);
        desk.send(Check.FRIEND, 1);
        CHECK.same("asked", desk.hardware(Check.FRIEND), 0);
        Check.meet(desk, Check.ALL - 1, Check.FRIEND);
        CHECK.same("good", desk.hardware(Check.FRIEND), Check.ALL - 1);
        desk.tick(2);
        CHECK.same("old", desk.hardware(Check.FRIEND), Check.ALL - 1);
        desk.send(Check.FRIEND, 1);
        CHECK.same("checked", desk.hardware(Check.FRIEND), Check.ALL - 1);
        desk.tick(3);
        desk.send(Check.FRIEND, 1);
        CHECK.same("asked anew, the number before is gone", desk.hardware(Check.FRIEND), 0);
    }

    /** "Whether there is an entry of an address that has a hardware number." */
    private static void knowsEachKind() {
        NeighbourDesk desk = Check.kept(3, 2, 50);
        CHECK.same("unknown", desk.knows(Check.FRIEND), false);
        CHECK.same("0 is unknown", desk.knows(0), false);
        CHECK.same("OWN is unknown", desk.knows(Check.OWN), false);
        Check.meet(desk, 8, Check.OTHER);
        desk.send(Check.FRIEND, 1);
        CHECK.same("asked", desk.knows(Check.FRIEND), false);
        Check.meet(desk, 9, Check.FRIEND);
        CHECK.same("good", desk.knows(Check.FRIEND), true);
        desk.tick(2);
        CHECK.same("old", desk.knows(Check.FRIEND), true);
        desk.send(Check.FRIEND, 1);
        CHECK.same("checked", desk.knows(Check.FRIEND), true);
        desk.tick(3);
        CHECK.same("gone", desk.knows(Check.FRIEND), false);
    }

    /** "one for an address" */
    private static void oneForAnAddress() {
        NeighbourDesk desk = Check.kept(5, 2, 50);
        desk.send(Check.FRIEND, 1);
        desk.send(Check.FRIEND, 2);
        Check.meet(desk, 9, Check.FRIEND);
        Check.hear(desk, 1, 10, Check.FRIEND, Check.OWN);
        CHECK.same("one entry", Check.order(desk), "a000002");
        Check.meet(desk, 10, Check.OTHER);
        CHECK.same("one hardware number may have two addresses", Check.order(desk), "a000002 a000003");
    }

    /** "If its sender's address has an entry: its hardware number becomes the sender's, it is GOOD from now on" */
    private static void heardWithAnEntry() {
        for (int operation = 1; operation <= 2; operation++) {
            for (int goal : new int[] {Check.OTHER, 0, Check.FRIEND}) {
                NeighbourDesk desk = Check.kept(3, 2, 50);
                Check.meet(desk, 9, Check.FRIEND);
                desk.tick(2);
                CHECK.same("old", desk.about(Check.FRIEND, 0), NeighbourDesk.OLD);
                CHECK.same("heard by the way", Check.hear(desk, operation, 10, Check.FRIEND, goal), 0);
                CHECK.same("good from now on", Check.entry(desk, Check.FRIEND),
                        "a000002 kind 2 waiting 0 since 10 used 8 at 10");
                CHECK.same("no frame", desk.count(4), 5);
            }
        }
    }

    /** "if it was ASKED, DATA of all that wait go out to it, in turn" */
    private static void heardDataInTurn() {
        for (int waiting = 1; waiting <= 4; waiting++) {
            NeighbourDesk desk = Check.kept(3, 50, 50);
            for (int i = 0; i < waiting; i++) {
                desk.send(Check.FRIEND, 20 - i);
            }
            desk.send(Check.OTHER, 1);
            Check.hear(desk, 2, 9, Check.FRIEND, 70);
            for (int i = 0; i < waiting; i++) {
                CHECK.same("data " + i, Check.frame(desk, 7 + i), Check.dueData(9, 20 - i));
            }
            CHECK.same("none waits", Check.entry(desk, Check.FRIEND), "a000002 kind 2 waiting 0 since 8 used 8 at 9");
            CHECK.same("the other's waits", desk.count(6), 1);
            Check.hear(desk, 2, 9, Check.FRIEND, 70);
            CHECK.same("data goes once", desk.count(4), 7 + waiting);
        }
    }

    /** "(It is not used by that.)" */
    private static void heardIsNoUse() {
        NeighbourDesk desk = Check.kept(3, 50, 50);
        desk.send(60, 1);
        Check.meet(desk, 9, 61);
        desk.tick(1);
        Check.hear(desk, 1, 8, 60, Check.OWN);
        Check.hear(desk, 1, 8, 61, 62);
        Check.hear(desk, 1, 8, 60, 62);
        CHECK.same("order", Check.order(desk), "3c 3d");
        CHECK.same("an asked one", Check.entry(desk, 60), "3c kind 2 waiting 0 since 9 used 8 at 8");
        CHECK.same("a good one", Check.entry(desk, 61), "3d kind 2 waiting 0 since 9 used 8 at 8");
    }

    /** "If it is for OWN (its target's address)" */
    private static void notForOwn() {
        NeighbourDesk desk = Check.kept(3, 2, 50);
        for (int goal : new int[] {Check.OTHER, 0, -1, Check.OWN + 1, Check.OWN ^ (1 << 31), Check.FRIEND}) {
            CHECK.same("for " + goal, Check.hear(desk, 1, 9, Check.FRIEND, goal), 0);
        }
        desk.pack(1, 9, Check.FRIEND, 2, Check.OTHER);
        CHECK.same("to HERE, but not for OWN", desk.hear(), 0);
        CHECK.same("nothing changes", Check.look(desk), "counts 3 " + Check.OWN + " 8 0 5 0 0 -1");
    }

    /** "in PHASE 2 or 3" */
    private static void notBeforeAnnouncing() {
        int[][] dueAfter = {{0, 0}, {5, 0}, {6, 1}, {7, 1}, {8, 1}, {40, 1}};
        for (int[] pair : dueAfter) {
            NeighbourDesk desk = new NeighbourDesk(4, 50, 50);
            desk.claim(Check.OWN);
            desk.tick(pair[0]);
            int frames = desk.count(4);
            Check.hear(desk, 1, 9, Check.FRIEND, Check.OWN);
            CHECK.same("entries after " + pair[0], desk.count(3), pair[1]);
            CHECK.same("replies after " + pair[0], desk.count(4), frames + pair[1]);
        }
        NeighbourDesk desk = new NeighbourDesk(4, 50, 50);
        Check.hear(desk, 1, 9, Check.FRIEND, 0);
        CHECK.same("none for 0 without a phase", Check.look(desk), "counts 0 0 0 0 0 0 0 -1");
    }

    /** "if the sender's address is not 0" */
    private static void forOwnFromNoAddress() {
        NeighbourDesk desk = Check.kept(1, 50, 50);
        Check.meet(desk, 8, Check.FRIEND);
        CHECK.same("an answer from 0", Check.hear(desk, 2, 9, 0, Check.OWN), 0);
        CHECK.same("no frame", desk.count(4), 5);
        CHECK.same("a question from 0", Check.hear(desk, 1, 9, 0, Check.OWN), 0);
        CHECK.same("its reply", Check.last(desk), Check.duePacket(9, 2, 2, Check.OWN, 9, 0));
        CHECK.same("0 gets no entry, and none goes for it", Check.order(desk), "a000002");
        Check.meet(desk, 9, -1);
        CHECK.same("-1 gets one, as it is not 0", Check.order(desk), "ffffffff");
    }

    /** "and has no entry, and there is room, it gets one, GOOD from now on" */
    private static void forOwnFromAStranger() {
        for (int address : new int[] {1, -2, Check.FRIEND, Integer.MIN_VALUE, Integer.MAX_VALUE}) {
            NeighbourDesk desk = Check.kept(3, 50, 50);
            desk.tick(1);
            Check.meet(desk, 9, address);
            CHECK.same("made", Check.entry(desk, address),
                    Integer.toHexString(address) + " kind 2 waiting 0 since 9 used 9 at 9");
        }
    }

    /** "and if it asks, a REPLY goes out" */
    private static void forOwnAsksOrAnswers() {
        NeighbourDesk desk = Check.kept(3, 50, 50);
        Check.hear(desk, 2, 9, Check.FRIEND, Check.OWN);
        CHECK.same("an answer", desk.count(4), 5);
        Check.hear(desk, 1, 9, Check.FRIEND, Check.OWN);
        CHECK.same("a question", desk.count(4), 6);
        desk.pack(1, 9, Check.FRIEND, 77, Check.OWN);
        desk.hear();
        CHECK.same("whatever its target's hardware number", desk.count(4), 7);
        CHECK.same("reply", Check.last(desk), Check.duePacket(9, 2, 2, Check.OWN, 9, Check.FRIEND));
    }

    /** "at most CAPACITY", "if there are CAPACITY entries, the first one that is not ASKED goes" */
    private static void atMostCapacity() {
        for (int capacity : new int[] {1, 2, 5}) {
            NeighbourDesk desk = Check.kept(capacity, 50, 50);
            for (int i = 0; i < 2 * capacity; i++) {
                Check.meet(desk, 9, 60 + i);
                CHECK.same("entries", desk.count(3), Math.min(capacity, i + 1));
                CHECK.same("the first", desk.entry(0), 60 + Math.max(0, i + 1 - capacity));
            }
        }
    }

    /** "the first one that is not ASKED goes": be it GOOD, OLD or CHECKED */
    private static void roomByEachKind() {
        for (int kind = NeighbourDesk.GOOD; kind <= NeighbourDesk.CHECKED; kind++) {
            for (boolean bySend : new boolean[] {false, true}) {
                NeighbourDesk desk = Check.kept(2, 3, 50);
                Check.meet(desk, 9, 60);
                desk.tick(kind == NeighbourDesk.GOOD ? 2 : 3);
                if (kind == NeighbourDesk.CHECKED) {
                    desk.send(60, 1);
                }
                desk.send(61, 1);
                CHECK.same("kind", desk.about(60, 0), kind);
                if (bySend) {
                    CHECK.same("it waits", desk.send(62, 2), 1);
                } else {
                    Check.meet(desk, 9, 62);
                }
                CHECK.same("kind " + kind + " goes", Check.order(desk), "3d 3e");
            }
        }
    }

    /** "the first one that is not ASKED": in the order of use */
    private static void roomPassesOverAsked() {
        NeighbourDesk desk = Check.kept(4, 50, 50);
        desk.send(60, 1);
        Check.meet(desk, 9, 61);
        Check.meet(desk, 10, 62);
        desk.send(63, 2);
        Check.meet(desk, 12, 64);
        CHECK.same("the first that is not asked went", Check.order(desk), "3c 3e 3f 40");
        desk.send(62, 3);
        CHECK.same("used", Check.order(desk), "3c 3f 40 3e");
        desk.send(65, 4);
        CHECK.same("the one used longer ago went", Check.order(desk), "3c 3f 3e 41");
        CHECK.same("none is lost", desk.count(5), 0);
    }

    /** "if there is none, there is no room" */
    private static void noRoom() {
        NeighbourDesk desk = Check.kept(2, 50, 50);
        desk.send(60, 1);
        desk.send(61, 2);
        Check.hear(desk, 2, 14, 66, Check.OWN);
        CHECK.same("an answer", Check.order(desk), "3c 3d");
        CHECK.same("no frame", desk.count(4), 7);
        Check.hear(desk, 1, 14, 66, Check.OWN);
        CHECK.same("a question", Check.order(desk), "3c 3d");
        CHECK.same("but a reply", Check.last(desk), Check.duePacket(14, 2, 2, Check.OWN, 14, 66));
        CHECK.same("to a stranger", desk.send(66, 3), 2);
        CHECK.same("nothing but that is lost", Check.losses(desk), "3");
        Check.meet(desk, 9, 61);
        CHECK.same("one is good, so there is room", desk.send(66, 4), 1);
        CHECK.same("it went", Check.order(desk), "3c 42");
    }

    /** "and has no entry, and there is room": one that has an entry makes none go */
    private static void anEntryNeedsNoRoom() {
        NeighbourDesk desk = Check.kept(2, 50, 50);
        Check.meet(desk, 9, 60);
        Check.meet(desk, 9, 61);
        Check.hear(desk, 1, 10, 61, Check.OWN);
        CHECK.same("both stay", Check.order(desk), "3c 3d");
        CHECK.same("it is learned", desk.hardware(61), 10);
        desk.send(61, 1);
        CHECK.same("both stay", Check.order(desk), "3c 3d");
        desk.send(60, 1);
        CHECK.same("both stay", Check.order(desk), "3d 3c");
    }

    /** "at most CAPACITY": the greatest one */
    private static void fullOfCapacity32() {
        NeighbourDesk desk = Check.kept(32, 50, 50);
        for (int i = 0; i < 32; i++) {
            Check.meet(desk, 1000 + i, 60 + i);
        }
        CHECK.same("full", desk.count(3), 32);
        for (int i = 0; i < 32; i++) {
            CHECK.same("entry " + i, desk.entry(i), 60 + i);
            CHECK.same("its number", desk.hardware(60 + i), 1000 + i);
        }
        desk.send(60, 1);
        Check.meet(desk, 9, 99);
        CHECK.same("the second went", desk.knows(61), false);
        CHECK.same("the first", desk.entry(0), 62);
        CHECK.same("the one before the last", desk.entry(30), 60);
        CHECK.same("the last", desk.entry(31), 99);
    }

    /** The order of what a packet does: DATA of all that wait, then the REPLY. */
    private static void dataThenReply() {
        NeighbourDesk desk = Check.kept(3, 50, 50);
        desk.send(Check.FRIEND, 5);
        Check.hear(desk, 1, 9, Check.FRIEND, Check.OWN);
        CHECK.same("data first", Check.frame(desk, 6), Check.dueData(9, 5));
        CHECK.same("then the reply", Check.frame(desk, 7), Check.duePacket(9, 2, 2, Check.OWN, 9, Check.FRIEND));
        CHECK.same("no more", desk.count(4), 8);
    }
}
