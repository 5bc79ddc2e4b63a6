/** Promise 9 (tick) and what becomes of entries. Each test stands under the document's words for it. */
public final class TickTest {
    private static final Check CHECK = new Check();

    public static void main(String[] args) {
        tickOfWrongN();
        tickAnswersTime();
        manyTicksAreSingleOnes();
        askedAsksAgain();
        askedGoes();
        askedAnsweredInTime();
        checkedAsksAgain();
        checkedGoes();
        checkedIsAnswered();
        goodGetsOld();
        heardIsGoodAnew();
        useKeepsNoneGood();
        oldGoes();
        oldGoesLongAfterUse();
        oldIsLookedAtFromTheNextTick();
        ageIsCountedFromUse();
        ownBeforeEntries();
        orderOfUse();
        severalGoAtOnce();
        CHECK.end();
    }

    /** "IllegalArgumentException: n is not 0 .. 40" */
    private static void tickOfWrongN() {
        NeighbourDesk desk = Check.kept(4, 5, 6);
        desk.send(Check.FRIEND, 1);
        for (int bad : new int[] {-1, 41, 42, Integer.MIN_VALUE, Integer.MAX_VALUE}) {
            CHECK.refused(desk, "tick " + bad, IllegalArgumentException.class, () -> desk.tick(bad));
        }
    }

    /** "TIME grows by 1", "n is not 0 .. 40" */
    private static void tickAnswersTime() {
        NeighbourDesk desk = new NeighbourDesk(4, 5, 6);
        CHECK.same("0 ticks", desk.tick(0), 0);
        CHECK.same("1 tick", desk.tick(1), 1);
        CHECK.same("40 ticks", desk.tick(40), 41);
        CHECK.same("39 ticks", desk.tick(39), 80);
        CHECK.same("0 ticks", desk.tick(0), 80);
        NeighbourDesk asking = Check.kept(4, 5, 6);
        asking.send(Check.FRIEND, 1);
        asking.tick(2);
        String before = Check.whole(asking);
        asking.tick(0);
        CHECK.same("0 ticks change nothing", Check.whole(asking), before);
    }

    /** "So many TICKS" */
    private static void manyTicksAreSingleOnes() {
        for (int ticks : new int[] {2, 7, 20, 39, 40}) {
            NeighbourDesk atOnce = busy();
            NeighbourDesk singly = busy();
            atOnce.tick(ticks);
            for (int i = 0; i < ticks; i++) {
                singly.tick(1);
            }
            CHECK.same(ticks + " ticks", Check.whole(atOnce), Check.whole(singly));
        }
    }

    private static NeighbourDesk busy() {
        NeighbourDesk desk = new NeighbourDesk(5, 4, 9);
        desk.claim(Check.OWN);
        desk.tick(6);
        Check.meet(desk, 9, 70);
        desk.send(71, 1);
        desk.tick(1);
        desk.send(72, 2);
        Check.meet(desk, 10, 73);
        desk.send(71, 3);
        return desk;
    }

    /** "ASKED: 2 and 4 ticks behind the first REQUEST another one goes out" */
    private static void askedAsksAgain() {
        NeighbourDesk desk = Check.kept(4, 5, 6);
        desk.send(Check.FRIEND, 1);
        desk.tick(1);
        desk.send(Check.FRIEND, 2);
        int[] frames = {6, 6, 7, 7, 8, 8, 8};
        for (int passed = 1; passed < 6; passed++) {
            CHECK.same("frames after " + passed, desk.count(4), frames[passed]);
            CHECK.same("entry after " + passed, Check.entry(desk, Check.FRIEND),
                    "a000002 kind 1 waiting 2 since 8 used 9 at 0");
            desk.tick(1);
        }
        CHECK.same("none at its end", desk.count(4), 8);
        for (int i = 5; i < 8; i++) {
            CHECK.same("request " + i, Check.frame(desk, i), Check.dueRequest(Check.ALL, Check.FRIEND));
        }
    }

    /** "6 behind it goes" */
    private static void askedGoes() {
        NeighbourDesk desk = Check.kept(4, 5, 6);
        desk.send(Check.FRIEND, 1);
        desk.tick(5);
        desk.send(Check.FRIEND, 2);
        CHECK.same("5 ticks behind", desk.about(Check.FRIEND, 0), NeighbourDesk.ASKED);
        desk.tick(1);
        CHECK.same("6 ticks behind", Check.look(desk), "counts 3 " + Check.OWN + " 14 0 8 2 0 -1");
        CHECK.same("lost in turn", Check.losses(desk), "1 2");
        CHECK.same("asked anew", desk.send(Check.FRIEND, 3), 1);
        CHECK.same("from now on", Check.entry(desk, Check.FRIEND), "a000002 kind 1 waiting 1 since 14 used 14 at 0");
        CHECK.same("the new one waits alone", desk.waits(Check.FRIEND, 0), 3);
    }

    /** An answer 5 ticks behind the first REQUEST comes in time, and no more of them go out. */
    private static void askedAnsweredInTime() {
        NeighbourDesk desk = Check.kept(4, 50, 60);
        desk.send(Check.FRIEND, 1);
        desk.tick(5);
        Check.meet(desk, 9, Check.FRIEND);
        CHECK.same("data", Check.last(desk), Check.dueData(9, 1));
        desk.tick(40);
        CHECK.same("good", Check.look(desk), "counts 3 " + Check.OWN + " 53 1 9 0 0 -1, "
                + "a000002 kind 2 waiting 0 since 13 used 8 at 9");
    }

    /** "CHECKED: 1 and 2 ticks behind it became so another REQUEST to its hardware number" */
    private static void checkedAsksAgain() {
        NeighbourDesk desk = Check.kept(4, 2, 50);
        Check.meet(desk, 9, Check.FRIEND);
        desk.tick(3);
        desk.send(Check.FRIEND, 1);
        int[] frames = {7, 8, 9};
        for (int passed = 0; passed < 3; passed++) {
            CHECK.same("frames after " + passed, desk.count(4), frames[passed]);
            CHECK.same("request", Check.last(desk), Check.dueRequest(9, Check.FRIEND));
            CHECK.same("kind", Check.entry(desk, Check.FRIEND), "a000002 kind 4 waiting 0 since 11 used 11 at 9");
            desk.tick(1);
        }
        CHECK.same("none at its end", desk.count(4), 9);
    }

    /** "3 behind it goes": its use since then keeps it not */
    private static void checkedGoes() {
        NeighbourDesk desk = Check.kept(4, 2, 50);
        Check.meet(desk, 9, Check.FRIEND);
        desk.tick(3);
        desk.send(Check.FRIEND, 1);
        desk.tick(2);
        desk.send(Check.FRIEND, 2);
        CHECK.same("2 ticks behind", desk.about(Check.FRIEND, 0), NeighbourDesk.CHECKED);
        desk.tick(1);
        CHECK.same("3 ticks behind", Check.look(desk), "counts 3 " + Check.OWN + " 14 0 10 0 0 -1");
    }

    /** "its hardware number becomes the sender's, it is GOOD from now on" */
    private static void checkedIsAnswered() {
        NeighbourDesk desk = Check.kept(4, 2, 50);
        Check.meet(desk, 9, Check.FRIEND);
        desk.tick(2);
        desk.send(Check.FRIEND, 1);
        desk.tick(2);
        CHECK.same("answer", Check.hear(desk, 2, 11, Check.FRIEND, Check.OWN), 0);
        CHECK.same("good again", Check.entry(desk, Check.FRIEND), "a000002 kind 2 waiting 0 since 12 used 10 at 11");
        desk.tick(1);
        CHECK.same("still good", desk.about(Check.FRIEND, 0), NeighbourDesk.GOOD);
        desk.tick(1);
        CHECK.same("old again", Check.entry(desk, Check.FRIEND), "a000002 kind 3 waiting 0 since 14 used 10 at 11");
        desk.send(Check.FRIEND, 2);
        CHECK.same("checked again", Check.last(desk), Check.dueRequest(11, Check.FRIEND));
        desk.tick(2);
        CHECK.same("2 ticks behind", Check.entry(desk, Check.FRIEND),
                "a000002 kind 4 waiting 0 since 14 used 14 at 11");
        desk.tick(1);
        CHECK.same("3 ticks behind", desk.knows(Check.FRIEND), false);
    }

    /** "GOOD: REACH ticks since it was that: it is OLD" */
    private static void goodGetsOld() {
        for (int reach : new int[] {1, 2, 3, 10}) {
            NeighbourDesk desk = Check.kept(4, reach, 50);
            Check.meet(desk, 9, Check.FRIEND);
            desk.tick(reach - 1);
            CHECK.same("good", Check.entry(desk, Check.FRIEND), "a000002 kind 2 waiting 0 since 8 used 8 at 9");
            desk.tick(1);
            CHECK.same("old", Check.entry(desk, Check.FRIEND),
                    "a000002 kind 3 waiting 0 since " + (8 + reach) + " used 8 at 9");
            desk.tick(1);
            CHECK.same("since then", desk.about(Check.FRIEND, 2), 8 + reach);
            CHECK.same("nothing goes out", desk.count(4), 5);
        }
    }

    /** "it is GOOD from now on": REACH is counted from the latest packet */
    private static void heardIsGoodAnew() {
        NeighbourDesk desk = Check.kept(4, 3, 50);
        Check.meet(desk, 9, Check.FRIEND);
        desk.tick(2);
        Check.meet(desk, 9, Check.FRIEND);
        desk.tick(2);
        CHECK.same("still good", Check.entry(desk, Check.FRIEND), "a000002 kind 2 waiting 0 since 10 used 8 at 9");
        desk.tick(1);
        CHECK.same("old", desk.about(Check.FRIEND, 0), NeighbourDesk.OLD);
        Check.meet(desk, 9, Check.FRIEND);
        CHECK.same("good anew", Check.entry(desk, Check.FRIEND), "a000002 kind 2 waiting 0 since 13 used 8 at 9");
    }

    /** "REACH ticks since it was that": not since it was used */
    private static void useKeepsNoneGood() {
        NeighbourDesk desk = Check.kept(4, 3, 50);
        Check.meet(desk, 9, Check.FRIEND);
        desk.tick(2);
        desk.send(Check.FRIEND, 1);
        desk.tick(1);
        CHECK.same("old", Check.entry(desk, Check.FRIEND), "a000002 kind 3 waiting 0 since 11 used 10 at 9");
    }

    /** "OLD: AGE ticks, or more, since it was used: it goes." */
    private static void oldGoes() {
        for (int age : new int[] {3, 4, 5, 20}) {
            NeighbourDesk desk = Check.kept(4, 2, age);
            Check.meet(desk, 9, Check.FRIEND);
            desk.tick(age - 1);
            CHECK.same("old", Check.entry(desk, Check.FRIEND), "a000002 kind 3 waiting 0 since 10 used 8 at 9");
            desk.tick(1);
            CHECK.same("gone", Check.look(desk), "counts 3 " + Check.OWN + " " + (8 + age) + " 0 5 0 0 -1");
        }
    }

    /** "or more": a GOOD one stays, whenever it was used */
    private static void oldGoesLongAfterUse() {
        NeighbourDesk desk = Check.kept(4, 9, 2);
        Check.meet(desk, 9, Check.FRIEND);
        desk.tick(7);
        Check.meet(desk, 9, Check.FRIEND);
        desk.tick(8);
        CHECK.same("good as long as reach", Check.entry(desk, Check.FRIEND),
                "a000002 kind 2 waiting 0 since 15 used 8 at 9");
        desk.tick(2);
        CHECK.same("gone, far more than age behind", desk.count(3), 0);
    }

    /** "(and looked at so from the next tick on)" */
    private static void oldIsLookedAtFromTheNextTick() {
        for (int age : new int[] {1, 2, 3}) {
            NeighbourDesk desk = Check.kept(4, 3, age);
            Check.meet(desk, 9, Check.FRIEND);
            desk.tick(3);
            CHECK.same("old, though age is over", Check.entry(desk, Check.FRIEND),
                    "a000002 kind 3 waiting 0 since 11 used 8 at 9");
            desk.tick(1);
            CHECK.same("gone", desk.count(3), 0);
        }
        NeighbourDesk desk = Check.kept(4, 3, 1);
        Check.meet(desk, 9, Check.FRIEND);
        desk.tick(3);
        CHECK.same("until then it can be sent to", desk.send(Check.FRIEND, 1), 0);
        desk.tick(1);
        CHECK.same("checked ones don't age", desk.about(Check.FRIEND, 0), NeighbourDesk.CHECKED);
    }

    /** "AGE ticks, or more, since it was used" */
    private static void ageIsCountedFromUse() {
        NeighbourDesk desk = Check.kept(4, 2, 6);
        Check.meet(desk, 9, Check.FRIEND);
        desk.tick(1);
        desk.send(Check.FRIEND, 1);
        desk.tick(5);
        CHECK.same("5 ticks since", desk.knows(Check.FRIEND), true);
        desk.tick(1);
        CHECK.same("6 ticks since", desk.knows(Check.FRIEND), false);
    }

    /** "then OWN does what is told; then each entry" */
    private static void ownBeforeEntries() {
        NeighbourDesk desk = new NeighbourDesk(4, 50, 50);
        desk.claim(Check.OWN);
        desk.tick(6);
        desk.send(Check.FRIEND, 1);
        desk.tick(2);
        CHECK.same("OWN first", Check.frame(desk, 5), Check.dueAnnouncement());
        CHECK.same("then the entry", Check.frame(desk, 6), Check.dueRequest(Check.ALL, Check.FRIEND));
    }

    /** "then each entry, in the order of use" */
    private static void orderOfUse() {
        NeighbourDesk desk = Check.kept(4, 50, 50);
        desk.send(61, 1);
        desk.send(62, 2);
        desk.send(63, 3);
        desk.send(61, 4);
        desk.tick(2);
        int[] turn = {62, 63, 61};
        for (int i = 0; i < 3; i++) {
            CHECK.same("request " + i, Check.frame(desk, 8 + i), Check.dueRequest(Check.ALL, turn[i]));
        }
        Check.meet(desk, 9, 63);
        desk.tick(4);
        CHECK.same("lost", Check.losses(desk), "2 1 4");
        CHECK.same("the known one stays", Check.order(desk), "3f");
    }

    /** "each entry": those behind one that goes are looked at in the same tick */
    private static void severalGoAtOnce() {
        NeighbourDesk desk = Check.kept(6, 50, 50);
        for (int i = 0; i < 3; i++) {
            desk.send(61 + i, i);
        }
        desk.tick(2);
        desk.send(64, 3);
        desk.send(65, 4);
        desk.tick(3);
        int frames = desk.count(4);
        desk.tick(1);
        CHECK.same("three go", Check.order(desk), "40 41");
        CHECK.same("lost", Check.losses(desk), "0 1 2");
        CHECK.same("the others ask at their tick 4", desk.count(4), frames + 2);
        CHECK.same("in turn", Check.frame(desk, frames), Check.dueRequest(Check.ALL, 64));
        CHECK.same("in turn", Check.frame(desk, frames + 1), Check.dueRequest(Check.ALL, 65));
        desk.tick(2);
        CHECK.same("all gone", desk.count(3), 0);
        CHECK.same("lost", Check.losses(desk), "0 1 2 3 4");
    }
}
