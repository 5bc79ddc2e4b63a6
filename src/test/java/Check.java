/** Counts wrong answers of one test and ends it with exit code 1 if there was one. */
final class Check {
    static final long ALL = 281474976710655L;
    static final int OWN = 0x0a000001;
    static final int FRIEND = 0x0a000002;
    static final int OTHER = 0x0a000003;

    private int wrong = 0;

    void same(String what, Object got, Object due) {
        if (!String.valueOf(got).equals(String.valueOf(due))) {
            wrong++;
            System.out.println(what + ": answered " + got + ", due is " + due);
        }
    }

    /** The call throws just this exception and changes nothing that can be seen. */
    void refused(NeighbourDesk desk, String what, Class<?> due, Runnable call) {
        String before = look(desk);
        same(what + " throws", thrown(call), due);
        same(what + " leaves", look(desk), before);
    }

    static Object thrown(Runnable call) {
        try {
            call.run();
            return "nothing";
        } catch (RuntimeException e) {
            return e.getClass();
        }
    }

    void end() {
        if (wrong != 0) {
            System.out.println(wrong + " answers are not as due");
            System.exit(1);
        }
    }

    /** A desk that keeps OWN since tick 8 and has sent 5 frames. */
    static NeighbourDesk kept(int capacity, int reach, int age) {
        NeighbourDesk desk = new NeighbourDesk(capacity, reach, age);
        desk.claim(OWN);
        desk.tick(8);
        return desk;
    }

    static int hear(NeighbourDesk desk, int operation, long sender, int senderAddress, int targetAddress) {
        desk.pack(operation, sender, senderAddress, 0, targetAddress);
        return desk.hear();
    }

    /** An answer to OWN that makes an entry good, or makes one, where there is room. */
    static void meet(NeighbourDesk desk, long sender, int address) {
        hear(desk, 2, sender, address, OWN);
    }

    static String look(NeighbourDesk desk) {
        StringBuilder text = new StringBuilder("counts");
        for (int what = 0; what < 8; what++) {
            text.append(' ').append(desk.count(what));
        }
        int entries = Math.min(3, desk.count(3));
        for (int i = 0; i < entries; i++) {
            text.append(", ").append(entry(desk, desk.entry(i)));
        }
        return text.toString();
    }

    /** All that can be seen of a desk but its tape, for one of few entries and frames. */
    static String whole(NeighbourDesk desk) {
        StringBuilder text = new StringBuilder(look(desk));
        for (int i = 0; i < desk.count(3); i++) {
            int address = desk.entry(i);
            text.append(", ").append(entry(desk, address));
            for (int k = 0; k < desk.about(address, 1); k++) {
                text.append(" then ").append(desk.waits(address, k));
            }
        }
        for (int i = 0; i < Math.min(100, desk.count(4)); i++) {
            text.append(", to ").append(desk.to(i)).append(" of ").append(desk.data(i));
        }
        return text.append(", lost ").append(losses(desk)).toString();
    }

    static String entry(NeighbourDesk desk, int address) {
        return Integer.toHexString(address) + " kind " + desk.about(address, 0) + " waiting " + desk.about(address, 1)
                + " since " + desk.about(address, 2) + " used " + desk.about(address, 3)
                + " at " + desk.hardware(address);
    }

    static String order(NeighbourDesk desk) {
        StringBuilder text = new StringBuilder();
        for (int i = 0; i < desk.count(3); i++) {
            text.append(i == 0 ? "" : " ").append(Integer.toHexString(desk.entry(i)));
        }
        return text.toString();
    }

    static String losses(NeighbourDesk desk) {
        StringBuilder text = new StringBuilder();
        for (int i = 0; i < Math.min(100, desk.count(5)); i++) {
            text.append(i == 0 ? "" : " ").append(desk.lost(i));
        }
        return text.toString();
    }

    /** The latest frame of a desk that has sent at most 100. */
    static String last(NeighbourDesk desk) {
        return frame(desk, desk.count(4) - 1);
    }

    static String frame(NeighbourDesk desk, int i) {
        StringBuilder text = new StringBuilder(Long.toHexString(desk.to(i)));
        boolean isPacket = true;
        try {
            desk.out(i, 0);
        } catch (IndexOutOfBoundsException e) {
            isPacket = false;
        }
        if (!isPacket) {
            return text.append(" data ").append(desk.data(i)).toString();
        }
        text.append(" packet ");
        for (int k = 0; k < 28; k++) {
            text.append(String.format("%02x", desk.out(i, k)));
        }
        return text.append(" data ").append(desk.data(i)).toString();
    }

    static String dueData(long goal, int number) {
        return Long.toHexString(goal) + " data " + number;
    }

    static String duePacket(long goal, int operation, long sender, int senderAddress, long target, int targetAddress) {
        return String.format("%x packet 000108000604%04x%012x%08x%012x%08x data -1",
                goal, operation, sender, senderAddress, target, targetAddress);
    }

    static String dueRequest(long goal, int address) {
        return duePacket(goal, 1, 2, OWN, 0, address);
    }

    static String dueProbe() {
        return duePacket(ALL, 1, 2, 0, 0, OWN);
    }

    static String dueAnnouncement() {
        return dueRequest(ALL, OWN);
    }
}
