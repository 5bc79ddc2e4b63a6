/** Promises 8 (send) and 15 (waits). Each test stands under the document's words for it. */
public final class SendTest {
    private static final Check CHECK = new Check();

    public static void main(String[] args) {
        toNoAddress();
        toAnyOther();
        withoutAPhase();
        wrongNumberFirst();
        toStranger();
        toStrangerWithRoom();
        toStrangerWithoutRoom();
        upToFourWait();
        whatIsLostIsUsed();
        toGood();
        toOld();
        toChecked();
        anyNumber();
        waitsInTurn();
        waitsOutside();
        waitsWithoutEntry();
        CHECK.end();
    }

    /** "IllegalArgumentException: the address is 0, -1 or OWN" */
    private static void toNoAddress() {
        for (int ticks : new int[] {6, 8}) {
            NeighbourDesk desk = new NeighbourDesk(4, 5, 6);
            desk.claim(Check.OWN);
            desk.tick(ticks);
            for (int bad : new int[] {0, -1, Check.OWN}) {
                CHECK.refused(desk, "to " + bad, IllegalArgumentException.class, () -> desk.send(bad, 1));
            }
        }
        NeighbourDesk desk = Check.kept(4, 5, 6);
        Check.meet(desk, 9, -1);
        CHECK.refused(desk, "to -1 with an entry", IllegalArgumentException.class, () -> desk.send(-1, 1));
    }

    /** "ADDRESSES are ints" */
    private static void toAnyOther() {
        NeighbourDesk desk = Check.kept(8, 5, 6);
        for (int good : new int[] {1, -2, Check.OWN + 1, Check.OWN - 1, Integer.MIN_VALUE, Integer.MAX_VALUE}) {
            CHECK.same("to " + good, desk.send(good, 1), 1);
            CHECK.same("request", Check.last(desk), Check.dueRequest(Check.ALL, good));
        }
        desk.release();
        desk.claim(5);
        desk.tick(6);
        CHECK.same("what was OWN", desk.send(Check.OWN, 1), 1);
    }

    /** "IllegalStateException: PHASE is 0 or 1" */
    private static void withoutAPhase() {
        NeighbourDesk desk = new NeighbourDesk(4, 5, 6);
        CHECK.refused(desk, "without a phase", IllegalStateException.class, () -> desk.send(5, 1));
        desk.claim(Check.OWN);
        for (int passed = 0; passed < 6; passed++) {
            CHECK.refused(desk, "probing", IllegalStateException.class, () -> desk.send(5, 1));
            desk.tick(1);
        }
        CHECK.same("announcing", desk.send(5, 1), 1);
        desk.tick(2);
        CHECK.same("kept", desk.send(5, 2), 1);
        desk.release();
        CHECK.refused(desk, "without a phase again", IllegalStateException.class, () -> desk.send(5, 1));
    }

    /** "of several exceptions the one named first is thrown" */
    private static void wrongNumberFirst() {
        NeighbourDesk desk = new NeighbourDesk(4, 5, 6);
        CHECK.refused(desk, "0 without a phase", IllegalArgumentException.class, () -> desk.send(0, 1));
        CHECK.refused(desk, "-1 without a phase", IllegalArgumentException.class, () -> desk.send(-1, 1));
        desk.claim(Check.OWN);
        CHECK.refused(desk, "0, probing", IllegalArgumentException.class, () -> desk.send(0, 1));
        CHECK.refused(desk, "-1, probing", IllegalArgumentException.class, () -> desk.send(-1, 1));
        CHECK.refused(desk, "OWN, probing", IllegalArgumentException.class, () -> desk.send(Check.OWN, 1));
    }

    /** "without an entry, if there is room, there is an ASKED one, a REQUEST goes out, and it WAITS" */
    private static void toStranger() {
        NeighbourDesk desk = Check.kept(4, 50, 50);
        CHECK.same("it waits", desk.send(0xC0A80001, 5), 1);
        CHECK.same("asked", Check.look(desk), "counts 3 " + Check.OWN + " 8 1 6 0 1 -1, "
                + "c0a80001 kind 1 waiting 1 since 8 used 8 at 0");
        CHECK.same("request", Check.last(desk), Check.dueRequest(Check.ALL, 0xC0A80001));
        desk.tick(1);
        CHECK.same("the next one waits", desk.send(0xC0A80001, 6), 1);
        CHECK.same("without a request, but used", Check.look(desk), "counts 3 " + Check.OWN + " 9 1 6 0 2 -1, "
                + "c0a80001 kind 1 waiting 2 since 8 used 9 at 0");
    }

    /** "if there is room": what makes room goes, and nothing that waits is lost */
    private static void toStrangerWithRoom() {
        NeighbourDesk desk = Check.kept(2, 50, 50);
        Check.meet(desk, 9, Check.FRIEND);
        CHECK.same("one is free", desk.send(Check.OTHER, 1), 1);
        CHECK.same("none goes", Check.order(desk), "a000002 a000003");
        CHECK.same("none is free", desk.send(60, 2), 1);
        CHECK.same("the known one goes", Check.order(desk), "a000003 3c");
        CHECK.same("none is lost", desk.count(5), 0);
        CHECK.same("the new one's queue", Check.whole(desk).contains("3c kind 1 waiting 1 since 8 used 8 at 0 then 2,"),
                true);
    }

    /** "else it is LOST" */
    private static void toStrangerWithoutRoom() {
        NeighbourDesk desk = Check.kept(2, 50, 50);
        desk.send(Check.OTHER, 1);
        desk.send(60, 2);
        CHECK.same("no room", desk.send(61, 3), 2);
        CHECK.same("nothing goes out", desk.count(4), 7);
        CHECK.same("lost", Check.losses(desk), "3");
        CHECK.same("the asked ones stay", Check.order(desk), "a000003 3c");
        CHECK.same("no room still", desk.send(61, 4), 2);
        CHECK.same("lost", Check.losses(desk), "3 4");
    }

    /** "at an ASKED one it WAITS, or is LOST, if four wait" */
    private static void upToFourWait() {
        NeighbourDesk desk = Check.kept(4, 50, 50);
        int[] numbers = {7, 0, -1, Integer.MIN_VALUE, 8, 9};
        for (int i = 0; i < 6; i++) {
            CHECK.same("number " + i, desk.send(Check.FRIEND, numbers[i]), i < 4 ? 1 : 2);
            CHECK.same("waiting", desk.about(Check.FRIEND, 1), Math.min(4, i + 1));
        }
        CHECK.same("lost", Check.losses(desk), "8 9");
        CHECK.same("one request", desk.count(4), 6);
        CHECK.same("four at another one", desk.send(Check.OTHER, 1), 1);
        Check.meet(desk, 9, Check.FRIEND);
        for (int i = 0; i < 4; i++) {
            CHECK.same("data " + i, Check.frame(desk, 7 + i), Check.dueData(9, numbers[i]));
        }
        CHECK.same("no more than these", desk.count(4), 11);
    }

    /** "Its entry is used.": when the number is LOST, too */
    private static void whatIsLostIsUsed() {
        NeighbourDesk desk = Check.kept(4, 50, 50);
        for (int i = 0; i < 4; i++) {
            desk.send(Check.FRIEND, i);
        }
        desk.send(Check.OTHER, 1);
        desk.tick(1);
        CHECK.same("a fifth", desk.send(Check.FRIEND, 10), 2);
        CHECK.same("the last in the order", Check.order(desk), "a000003 a000002");
        CHECK.same("used now", desk.about(Check.FRIEND, 3), 9);
    }

    /** "to a GOOD or CHECKED entry DATA goes out" */
    private static void toGood() {
        NeighbourDesk desk = Check.kept(4, 3, 50);
        Check.meet(desk, 9, Check.FRIEND);
        Check.meet(desk, 10, Check.OTHER);
        desk.tick(2);
        CHECK.same("to a good one", desk.send(Check.FRIEND, 4), 0);
        CHECK.same("data", Check.last(desk), Check.dueData(9, 4));
        CHECK.same("one frame", desk.count(4), 6);
        CHECK.same("used", Check.order(desk), "a000003 a000002");
        CHECK.same("still good", Check.entry(desk, Check.FRIEND), "a000002 kind 2 waiting 0 since 8 used 10 at 9");
        desk.tick(1);
        CHECK.same("use makes it good no longer", Check.entry(desk, Check.FRIEND),
                "a000002 kind 3 waiting 0 since 11 used 10 at 9");
    }

    /** "to an OLD one, too, and then a REQUEST to its hardware number, and it is CHECKED" */
    private static void toOld() {
        NeighbourDesk desk = Check.kept(4, 3, 50);
        Check.meet(desk, 9, Check.FRIEND);
        desk.tick(4);
        CHECK.same("to an old one", desk.send(Check.FRIEND, -1), 0);
        CHECK.same("data first", Check.frame(desk, 5), Check.dueData(9, -1));
        CHECK.same("then a request to it", Check.frame(desk, 6), Check.dueRequest(9, Check.FRIEND));
        CHECK.same("no more", desk.count(4), 7);
        CHECK.same("checked", Check.entry(desk, Check.FRIEND), "a000002 kind 4 waiting 0 since 12 used 12 at 9");
    }

    /** "to a GOOD or CHECKED entry DATA goes out" */
    private static void toChecked() {
        NeighbourDesk desk = Check.kept(4, 3, 50);
        Check.meet(desk, 9, Check.FRIEND);
        desk.tick(4);
        desk.send(Check.FRIEND, 5);
        CHECK.same("at once again", desk.send(Check.FRIEND, 6), 0);
        CHECK.same("data alone", desk.count(4), 8);
        desk.tick(1);
        CHECK.same("a tick later", desk.send(Check.FRIEND, 7), 0);
        CHECK.same("data", Check.last(desk), Check.dueData(9, 7));
        CHECK.same("a tick's request and data alone", desk.count(4), 10);
        CHECK.same("still checked", Check.entry(desk, Check.FRIEND), "a000002 kind 4 waiting 0 since 12 used 13 at 9");
    }

    /** "(Numbers may be anything.)" */
    private static void anyNumber() {
        int[] numbers = {0, -1, 1, Integer.MIN_VALUE, Integer.MAX_VALUE};
        NeighbourDesk desk = Check.kept(1, 50, 50);
        for (int number : numbers) {
            desk.send(Check.FRIEND, number);
        }
        desk.send(Check.OTHER, -1);
        CHECK.same("lost", Check.losses(desk), Integer.MAX_VALUE + " -1");
        for (int i = 0; i < 4; i++) {
            CHECK.same("waits", desk.waits(Check.FRIEND, i), numbers[i]);
        }
        Check.meet(desk, 9, Check.FRIEND);
        for (int i = 0; i < 5; i++) {
            CHECK.same("sent", desk.send(Check.FRIEND, numbers[i]), 0);
            CHECK.same("data", Check.last(desk), Check.dueData(9, numbers[i]));
        }
    }

    /** "The i-th number that waits at an address's entry." */
    private static void waitsInTurn() {
        NeighbourDesk desk = Check.kept(3, 50, 50);
        for (int i = 0; i < 4; i++) {
            desk.send(Check.FRIEND, 50 - i);
            desk.send(Check.OTHER, 60 + i);
            for (int k = 0; k <= i; k++) {
                CHECK.same("first entry", desk.waits(Check.FRIEND, k), 50 - k);
                CHECK.same("second entry", desk.waits(Check.OTHER, k), 60 + k);
            }
        }
        desk.send(Check.FRIEND, 9);
        CHECK.same("the fifth leaves them", desk.waits(Check.FRIEND, 3), 47);
    }

    /** "IndexOutOfBoundsException: there is no such ... number." */
    private static void waitsOutside() {
        NeighbourDesk desk = Check.kept(3, 50, 50);
        for (int waiting = 1; waiting <= 5; waiting++) {
            desk.send(Check.FRIEND, 5);
            int next = Math.min(4, waiting);
            CHECK.refused(desk, "waits " + next, IndexOutOfBoundsException.class,
                    () -> desk.waits(Check.FRIEND, next));
        }
        for (int bad : new int[] {-1, 5, Integer.MIN_VALUE, Integer.MAX_VALUE}) {
            CHECK.refused(desk, "waits " + bad, IndexOutOfBoundsException.class, () -> desk.waits(Check.FRIEND, bad));
        }
        Check.meet(desk, 9, Check.FRIEND);
        CHECK.refused(desk, "none waits", IndexOutOfBoundsException.class, () -> desk.waits(Check.FRIEND, 0));
    }

    /** "NoSuchElementException (first)" */
    private static void waitsWithoutEntry() {
        NeighbourDesk desk = Check.kept(3, 50, 50);
        desk.send(Check.OTHER, 1);
        for (int i : new int[] {0, -1, 1, 4, Integer.MIN_VALUE, Integer.MAX_VALUE}) {
            CHECK.refused(desk, "no entry, " + i, java.util.NoSuchElementException.class,
                    () -> desk.waits(Check.FRIEND, i));
        }
        CHECK.refused(desk, "no entry of 0", java.util.NoSuchElementException.class, () -> desk.waits(0, 0));
    }
}
