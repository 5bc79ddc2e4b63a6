/** Promise 8 (send), promise 15 (waits) and what a packet that is heard does to those that wait. */
public final class SendTest {
    private static final Check CHECK = new Check();

    public static void main(String[] args) {
        refused();
        toStranger();
        fiveWait();
        toGoodOldAndChecked();
        noRoom();
        waits();
        CHECK.end();
    }

    private static void refused() {
        NeighbourDesk desk = new NeighbourDesk(4, 5, 6);
        CHECK.refused(desk, "without a phase", IllegalStateException.class, () -> desk.send(5, 1));
        CHECK.refused(desk, "0 without a phase", IllegalArgumentException.class, () -> desk.send(0, 1));
        desk.claim(Check.OWN);
        desk.tick(5);
        CHECK.refused(desk, "probing", IllegalStateException.class, () -> desk.send(5, 1));
        CHECK.refused(desk, "OWN, probing", IllegalArgumentException.class, () -> desk.send(Check.OWN, 1));
        CHECK.refused(desk, "-1, probing", IllegalArgumentException.class, () -> desk.send(-1, 1));
        desk.tick(1);
        for (int bad : new int[] {0, -1, Check.OWN}) {
            CHECK.refused(desk, "to " + bad, IllegalArgumentException.class, () -> desk.send(bad, 1));
        }
        CHECK.same("announcing", desk.send(5, 1), 1);
    }

    private static void toStranger() {
        NeighbourDesk desk = Check.kept(4, 50, 50);
        CHECK.same("it waits", desk.send(0xC0A80001, 5), 1);
        CHECK.same("asked", Check.look(desk), "counts 3 " + Check.OWN + " 8 1 6 0 1 -1, "
                + "c0a80001 kind 1 waiting 1 since 8 used 8 at 0");
        CHECK.same("request", Check.last(desk), Check.dueRequest(Check.ALL, 0xC0A80001));
        desk.tick(1);
        CHECK.same("the next one waits", desk.send(0xC0A80001, 6), 1);
        CHECK.same("without a request, but used", Check.look(desk), "counts 3 " + Check.OWN + " 9 1 6 0 2 -1, "
                + "c0a80001 kind 1 waiting 2 since 8 used 9 at 0");
        CHECK.same("answer", Check.hear(desk, 2, 9, 0xC0A80001, Check.OTHER), 0);
        CHECK.same("data", Check.frame(desk, 6), Check.dueData(9, 5));
        CHECK.same("data", Check.frame(desk, 7), Check.dueData(9, 6));
        CHECK.same("good", Check.look(desk), "counts 3 " + Check.OWN + " 9 1 8 0 0 -1, "
                + "c0a80001 kind 2 waiting 0 since 9 used 9 at 9");
        CHECK.same("heard again", Check.hear(desk, 2, 9, 0xC0A80001, Check.OTHER), 0);
        CHECK.same("data goes once", desk.count(4), 8);
    }

    private static void fiveWait() {
        NeighbourDesk desk = Check.kept(4, 50, 50);
        int[] numbers = {7, 0, -1, Integer.MIN_VALUE, 8, 9};
        for (int i = 0; i < 6; i++) {
            CHECK.same("number " + i, desk.send(Check.FRIEND, numbers[i]), i < 4 ? 1 : 2);
        }
        desk.send(Check.OTHER, 1);
        desk.tick(1);
        CHECK.same("a seventh", desk.send(Check.FRIEND, 10), 2);
        CHECK.same("lost", Check.losses(desk), "8 9 10");
        CHECK.same("used by the lost one", Check.order(desk), "a000003 a000002");
        CHECK.same("used when", desk.about(Check.FRIEND, 3), 9);
        int before = desk.count(4);
        Check.meet(desk, 9, Check.FRIEND);
        for (int i = 0; i < 4; i++) {
            CHECK.same("data " + i, Check.frame(desk, before + i), Check.dueData(9, numbers[i]));
        }
        CHECK.same("no more than these", desk.count(4), before + 4);
    }

    private static void toGoodOldAndChecked() {
        NeighbourDesk desk = Check.kept(4, 3, 50);
        Check.meet(desk, 9, Check.FRIEND);
        Check.meet(desk, 10, Check.OTHER);
        desk.tick(2);
        CHECK.same("to a good one", desk.send(Check.FRIEND, 4), 0);
        CHECK.same("data", Check.last(desk), Check.dueData(9, 4));
        CHECK.same("one frame", desk.count(4), 6);
        CHECK.same("used", Check.order(desk), "a000003 a000002");
        CHECK.same("still good", Check.entry(desk, Check.FRIEND), "a000002 kind 2 waiting 0 since 8 used 10 at 9");
        desk.tick(1);
        CHECK.same("old", Check.entry(desk, Check.FRIEND), "a000002 kind 3 waiting 0 since 11 used 10 at 9");
        desk.tick(1);
        CHECK.same("to an old one", desk.send(Check.FRIEND, -1), 0);
        CHECK.same("data first", Check.frame(desk, 6), Check.dueData(9, -1));
        CHECK.same("then a request to it", Check.frame(desk, 7), Check.dueRequest(9, Check.FRIEND));
        CHECK.same("checked", Check.entry(desk, Check.FRIEND), "a000002 kind 4 waiting 0 since 12 used 12 at 9");
        desk.tick(1);
        CHECK.same("to a checked one", desk.send(Check.FRIEND, 6), 0);
        CHECK.same("data alone", Check.last(desk), Check.dueData(9, 6));
        CHECK.same("two frames more", desk.count(4), 10);
        CHECK.same("still checked", Check.entry(desk, Check.FRIEND), "a000002 kind 4 waiting 0 since 12 used 13 at 9");
    }

    private static void noRoom() {
        NeighbourDesk desk = Check.kept(2, 50, 50);
        Check.meet(desk, 9, Check.FRIEND);
        desk.send(Check.OTHER, 1);
        CHECK.same("the known one goes", desk.send(60, 2), 1);
        CHECK.same("order", Check.order(desk), "a000003 3c");
        CHECK.same("no room", desk.send(61, 3), 2);
        CHECK.same("nothing goes out", desk.count(4), 7);
        CHECK.same("lost", Check.losses(desk), "3");
        CHECK.same("the asked ones stay", Check.order(desk), "a000003 3c");
    }

    private static void waits() {
        NeighbourDesk desk = Check.kept(3, 50, 50);
        Class<?> none = java.util.NoSuchElementException.class;
        CHECK.refused(desk, "no entry", none, () -> desk.waits(Check.FRIEND, 0));
        CHECK.refused(desk, "no entry, first", none, () -> desk.waits(Check.FRIEND, -1));
        desk.send(Check.FRIEND, 5);
        desk.send(Check.FRIEND, -6);
        CHECK.same("first", desk.waits(Check.FRIEND, 0), 5);
        CHECK.same("second", desk.waits(Check.FRIEND, 1), -6);
        for (int bad : new int[] {-1, 2, 4, Integer.MIN_VALUE, Integer.MAX_VALUE}) {
            CHECK.refused(desk, "waits " + bad, IndexOutOfBoundsException.class, () -> desk.waits(Check.FRIEND, bad));
        }
        Check.meet(desk, 9, Check.FRIEND);
        CHECK.refused(desk, "none waits", IndexOutOfBoundsException.class, () -> desk.waits(Check.FRIEND, 0));
    }
}
