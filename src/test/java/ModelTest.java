import java.util.ArrayList;
import java.util.List;
import java.util.NoSuchElementException;
import java.util.Random;

/** Random runs of at most 512 calls, each answer compared with a plain model of the document. */
public final class ModelTest {
    private static final int RUNS = 3000, CALLS = 512;
    private static final int[] ADDRESSES = {0, -1, 1, 2, 3, 4, 5, 6, 0x80000007};
    private static final long[] NUMBERS = {0, 2, Check.ALL, 9, 10, 11, 0xF1E2D3C4B5A6L, 1, 2, 9};

    private final Random random;
    private final NeighbourDesk desk;
    private final Model model;
    private final String name;
    private int calls = 0;

    private ModelTest(int seed) {
        random = new Random(seed);
        name = "run " + seed;
        int capacity = random.nextInt(8) - 1;
        int reach = random.nextInt(12) - 1;
        int age = random.nextInt(16) - 1;
        desk = new NeighbourDesk(capacity, reach, age);
        model = new Model(capacity, reach, age);
    }

    public static void main(String[] args) {
        Check check = new Check();
        for (int seed = 0; seed < RUNS; seed++) {
            new ModelTest(seed).run(check);
        }
        check.end();
    }

    private void run(Check check) {
        while (calls < CALLS - 2) {
            int kind = random.nextInt(40);
            int address = ADDRESSES[random.nextInt(ADDRESSES.length)];
            if (kind < 10) {
                // What can be asked is asked more often than told, as an answer shows one thing alone.
                tell(check, address);
            } else {
                ask(check, kind, address);
            }
        }
    }

    private void compare(Check check, String call, String got, String due) {
        calls++;
        check.same(name + ", call " + calls + ": " + call, got, due);
    }

    private void tell(Check check, int address) {
        switch (random.nextInt(12)) {
            case 0, 1: {
                int n = random.nextInt(20) == 0 ? random.nextInt(60) - 10 : random.nextInt(5);
                compare(check, "tick " + n, answer(() -> desk.tick(n)), answer(() -> model.tick(n)));
                break;
            }
            case 2, 3, 4, 5: {
                int number = random.nextInt(50) - 1;
                compare(check, "send " + address, answer(() -> desk.send(address, number)),
                        answer(() -> model.send(address, number)));
                break;
            }
            case 6, 7, 8, 9:
                hear(check, address);
                break;
            case 10:
                if (model.phase == 0 || random.nextInt(10) == 0) {
                    compare(check, "claim " + address, answer(() -> run(() -> desk.claim(address))),
                            answer(() -> run(() -> model.claim(address))));
                } else if (random.nextInt(40) == 0) {
                    compare(check, "release", answer(desk::release), answer(model::release));
                }
                break;
            default:
                tellTape(check);
        }
        if (model.phase == 1 && random.nextInt(3) == 0) {
            compare(check, "tick 8", answer(() -> desk.tick(8)), answer(() -> model.tick(8)));
        }
    }

    private void tellTape(Check check) {
        if (random.nextInt(4) == 0) {
            long number = NUMBERS[random.nextInt(NUMBERS.length)];
            compare(check, "here " + number, answer(() -> run(() -> desk.here(number))),
                    answer(() -> run(() -> model.here(number))));
        } else if (random.nextInt(3) == 0) {
            long w = random.nextLong();
            int n = random.nextInt(11) - 1;
            compare(check, "type " + n, answer(() -> desk.type(w, n)), answer(() -> model.type(w, n)));
        }
    }

    private void hear(Check check, int senderAddress) {
        int operation = random.nextInt(15) == 0 ? random.nextInt(4) + 65536 : 1 + random.nextInt(2);
        long sender = NUMBERS[random.nextInt(NUMBERS.length)] + (random.nextInt(9) == 0 ? 1L << 48 : 0);
        // OWN as the sender's address would end most runs early.
        int from = senderAddress == model.own && random.nextInt(4) != 0 ? 0 : senderAddress;
        int goal = random.nextInt(3) != 0 ? model.own : ADDRESSES[random.nextInt(ADDRESSES.length)];
        calls++;
        desk.pack(operation, sender, from, 3, goal);
        model.pack(operation, sender, from, 3, goal);
        if (random.nextInt(20) == 0) {
            compare(check, "type more", answer(() -> desk.type(0, 1)), answer(() -> model.type(0, 1)));
        }
        compare(check, "hear", answer(desk::hear), answer(model::hear));
    }

    private void ask(Check check, int kind, int address) {
        int near = random.nextInt(8) - 1;
        int frame = random.nextInt(5) == 0 ? random.nextInt(104) - 2 : Math.min(99, model.frames.size() - 1);
        int k = random.nextInt(30) - 1;
        if (kind < 18) {
            int what = random.nextInt(10) - 1;
            compare(check, "count " + what, answer(() -> desk.count(what)), answer(() -> model.count(what)));
        } else if (kind < 21) {
            compare(check, "entry " + near, answer(() -> desk.entry(near)), answer(() -> model.entry(near)));
        } else if (kind < 26) {
            int what = random.nextInt(6) - 1;
            compare(check, "about " + address + " " + what, answer(() -> desk.about(address, what)),
                    answer(() -> model.about(address, what)));
        } else if (kind < 28) {
            compare(check, "hardware " + address, answer(() -> desk.hardware(address)),
                    answer(() -> model.find(address).hardware));
        } else if (kind < 29) {
            compare(check, "knows " + address, answer(() -> desk.knows(address)),
                    answer(() -> model.knows(address)));
        } else if (kind < 31) {
            compare(check, "waits " + address + " " + near, answer(() -> desk.waits(address, near)),
                    answer(() -> model.find(address).waiting.get(near)));
        } else if (kind < 33) {
            compare(check, "to " + frame, answer(() -> desk.to(frame)), answer(() -> model.frame(frame).goal));
        } else if (kind < 35) {
            compare(check, "data " + frame, answer(() -> desk.data(frame)), answer(() -> model.frame(frame).number));
        } else if (kind < 38) {
            compare(check, "out " + frame + " " + k, answer(() -> desk.out(frame, k)),
                    answer(() -> model.frame(frame).octet(k)));
        } else {
            int i = random.nextInt(12) == 0 ? 97 + random.nextInt(5) : near;
            compare(check, "lost " + i, answer(() -> desk.lost(i)), answer(() -> Model.latest(model.lost, i)));
        }
    }

    private interface Call {
        Object run();
    }

    private static Object run(Runnable call) {
        call.run();
        return "nothing";
    }

    private static String answer(Call call) {
        try {
            return String.valueOf(call.run());
        } catch (RuntimeException e) {
            return "throws " + e.getClass().getSimpleName();
        }
    }

    private static final class Frame {
        final long goal;
        final int number;
        final String hex;

        Frame(long goal, int number, String hex) {
            this.goal = goal;
            this.number = number;
            this.hex = hex;
        }

        int octet(int k) {
            if (hex.isEmpty() || k < 0 || k > 27) {
                throw new IndexOutOfBoundsException();
            }
            return Integer.parseInt(hex.substring(2 * k, 2 * k + 2), 16);
        }
    }

    private static final class Neighbour {
        int address;
        long hardware = 0;
        int kind = 1;
        int since;
        int used;
        Numbers waiting = new Numbers();
    }

    /** A list whose own exceptions are those of the document. */
    private static final class Numbers {
        final List<Integer> list = new ArrayList<>();

        int get(int i) {
            if (i < 0 || i >= list.size()) {
                throw new IndexOutOfBoundsException();
            }
            return list.get(i);
        }
    }

    /** The document's words, with lists that grow and packets as texts of hexadecimal digits. */
    private static final class Model {
        final int capacity, reach, age;
        final List<Neighbour> entries = new ArrayList<>();
        final List<Frame> frames = new ArrayList<>();
        final List<Integer> lost = new ArrayList<>();
        String tape = "";
        long here = 2;
        int time, phase, own, claimed, defended = -1;

        Model(int capacity, int reach, int age) {
            this.capacity = Math.max(capacity, 1);
            this.reach = Math.max(reach, 1);
            this.age = Math.max(age, 1);
        }

        static String packet(int operation, long sender, int from, long target, int goal) {
            return "000108000604" + String.format("%04x%012x%08x%012x%08x", operation & 0xffff,
                    sender & Check.ALL, from, target & Check.ALL, goal);
        }

        static <T> T latest(List<T> all, int i) {
            List<T> kept = all.subList(Math.max(0, all.size() - 100), all.size());
            if (i < 0 || i >= kept.size()) {
                throw new IndexOutOfBoundsException();
            }
            return kept.get(i);
        }

        Frame frame(int i) {
            return latest(frames, i);
        }

        void here(long number) {
            refuse(number <= 0 || number >= Check.ALL, new IllegalArgumentException());
            refuse(phase > 0, new IllegalStateException());
            here = number;
        }

        static void refuse(boolean wrong, RuntimeException due) {
            if (wrong) {
                throw due;
            }
        }

        int type(long w, int n) {
            refuse(n < 1 || n > 8, new IllegalArgumentException());
            refuse(tape.length() / 2 + n > 40, new IllegalStateException());
            String digits = String.format("%016x", w);
            for (int i = 0; i < n; i++) {
                tape += digits.substring(14 - 2 * i, 16 - 2 * i);
            }
            return tape.length() / 2;
        }

        void pack(int operation, long sender, int from, long target, int goal) {
            tape = packet(operation, sender, from, target, goal);
        }

        int hear() {
            String heard = tape;
            tape = "";
            if (!heard.matches("000108000604000[12].{40}")) {
                return 1;
            }
            boolean asks = heard.charAt(15) == '1';
            long sender = Long.parseLong(heard.substring(16, 28), 16);
            int from = Integer.parseUnsignedInt(heard.substring(28, 36), 16);
            int goal = Integer.parseUnsignedInt(heard.substring(48, 56), 16);
            if (sender == here || sender == 0 || sender == Check.ALL) {
                return 1;
            }
            if (phase != 0 && (from == own || phase == 1 && asks && from == 0 && goal == own)) {
                conflict();
                return 2;
            }
            take(asks, sender, from, goal);
            return 0;
        }

        void conflict() {
            if (phase == 1) {
                giveUp();
            } else if (defended == -1 || time >= defended + 10) {
                ask(Check.ALL, own, own);
                defended = time;
            } else {
                giveUp();
            }
        }

        void take(boolean asks, long sender, int from, int goal) {
            Neighbour one = search(from);
            if (one != null) {
                one.hardware = sender;
                one.kind = 2;
                one.since = time;
                for (int number : one.waiting.list) {
                    frames.add(new Frame(sender, number, ""));
                }
                one.waiting.list.clear();
            }
            if (phase < 2 || goal != own) {
                return;
            }
            if (from != 0 && one == null && room()) {
                Neighbour made = make(from);
                made.hardware = sender;
                made.kind = 2;
            }
            if (asks) {
                frames.add(new Frame(sender, -1, packet(2, here, own, sender, from)));
            }
        }

        boolean room() {
            if (entries.size() < capacity) {
                return true;
            }
            for (Neighbour one : entries) {
                if (one.kind != 1) {
                    entries.remove(one);
                    return true;
                }
            }
            return false;
        }

        Neighbour make(int address) {
            Neighbour made = new Neighbour();
            made.address = address;
            made.since = time;
            made.used = time;
            entries.add(made);
            return made;
        }

        Neighbour search(int address) {
            for (Neighbour one : entries) {
                if (one.address == address) {
                    return one;
                }
            }
            return null;
        }

        Neighbour find(int address) {
            Neighbour one = search(address);
            refuse(one == null, new NoSuchElementException());
            return one;
        }

        void ask(long goal, int from, int address) {
            frames.add(new Frame(goal, -1, packet(1, here, from, 0, address)));
        }

        void claim(int address) {
            refuse(address == 0 || address == -1, new IllegalArgumentException());
            refuse(phase != 0, new IllegalStateException());
            own = address;
            phase = 1;
            claimed = time;
            defended = -1;
            ask(Check.ALL, 0, own);
        }

        boolean release() {
            boolean had = phase != 0;
            giveUp();
            return had;
        }

        void giveUp() {
            phase = 0;
            own = 0;
            for (Neighbour one : entries) {
                lost.addAll(one.waiting.list);
            }
            entries.clear();
        }

        int send(int address, int number) {
            refuse(address == 0 || address == -1 || address == own, new IllegalArgumentException());
            refuse(phase < 2, new IllegalStateException());
            Neighbour one = search(address);
            if (one == null && !room()) {
                lost.add(number);
                return 2;
            }
            if (one == null) {
                one = make(address);
                ask(Check.ALL, own, address);
            }
            entries.remove(one);
            entries.add(one);
            one.used = time;
            if (one.kind == 1 && one.waiting.list.size() == 4) {
                lost.add(number);
                return 2;
            }
            if (one.kind == 1) {
                one.waiting.list.add(number);
                return 1;
            }
            frames.add(new Frame(one.hardware, number, ""));
            if (one.kind == 3) {
                ask(one.hardware, own, address);
                one.kind = 4;
                one.since = time;
            }
            return 0;
        }

        int tick(int n) {
            refuse(n < 0 || n > 40, new IllegalArgumentException());
            for (int i = 0; i < n; i++) {
                time++;
                tickOwn(time - claimed);
                for (Neighbour one : new ArrayList<>(entries)) {
                    tickEntry(one, time - one.since);
                }
            }
            return time;
        }

        void tickOwn(int passed) {
            if (phase == 1) {
                if (passed == 2 || passed == 4) {
                    ask(Check.ALL, 0, own);
                }
                if (passed == 6) {
                    ask(Check.ALL, own, own);
                    phase = 2;
                }
            } else if (phase == 2 && passed == 8) {
                ask(Check.ALL, own, own);
                phase = 3;
            }
        }

        void tickEntry(Neighbour one, int passed) {
            boolean goes = false;
            switch (one.kind) {
                case 1:
                    goes = passed == 6;
                    if (passed == 2 || passed == 4) {
                        ask(Check.ALL, own, one.address);
                    }
                    break;
                case 2:
                    if (passed == reach) {
                        one.kind = 3;
                        one.since = time;
                    }
                    break;
                case 3:
                    goes = time - one.used >= age;
                    break;
                default:
                    goes = passed == 3;
                    if (passed == 1 || passed == 2) {
                        ask(one.hardware, own, one.address);
                    }
            }
            if (goes) {
                lost.addAll(one.waiting.list);
                entries.remove(one);
            }
        }

        int count(int what) {
            int waiting = 0;
            for (Neighbour one : entries) {
                waiting += one.waiting.list.size();
            }
            int[] all = {phase, own, time, entries.size(), frames.size(), lost.size(), waiting, defended};
            refuse(what < 0 || what > 7, new IllegalArgumentException());
            return all[what];
        }

        int entry(int i) {
            refuse(i < 0 || i >= entries.size(), new IndexOutOfBoundsException());
            return entries.get(i).address;
        }

        int about(int address, int what) {
            refuse(what < 0 || what > 3, new IllegalArgumentException());
            Neighbour one = find(address);
            return new int[] {one.kind, one.waiting.list.size(), one.since, one.used}[what];
        }

        boolean knows(int address) {
            Neighbour one = search(address);
            return one != null && one.kind != 1;
        }
    }
}
