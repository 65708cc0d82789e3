import java.util.ArrayList;
import java.util.List;

/**
 * Long mixed runs of calls, each answer compared with that of a second simulator, which follows
 * the document's words (a list of changes with absolute times) and not the class's way. No object
 * is used for more than 512 calls.
 */
public final class ModelTest {
    private static final int OBJECTS = 20000;

    // With the 46 calls of compareAll they are 512: what an object answers later is free.
    private static final int MIXED_CALLS = 466;

    private record Change(int signal, int value, int time, boolean nextCycle) {
    }

    private record Process(int kind, int delay, int x, int y, int s, int target, int c, int watched) {
    }

    private static final class Model {
        private final List<Process> processes = new ArrayList<>();
        private List<Change> changes = new ArrayList<>();
        private int[] values = new int[12];
        private int[] events = new int[12];
        private int time = 0;
        private int cycles = 0;

        int process(int how, int signals, int c, int watched) {
            int[] named = new int[4];
            for (int i = 0; i < 4; i++) {
                named[i] = (signals >>> (4 * i)) % 16;
                if (named[i] < 0) {
                    named[i] += 16;
                }
            }
            for (int signal : named) {
                if (signal > 11) {
                    return -1;
                }
            }
            int kind = Math.floorMod(how, 8);
            int delay = Math.floorMod(Math.floorDiv(how, 16), 16);
            if (kind > 5) {
                return -2;
            }
            if (delay > 9) {
                return -3;
            }
            if (processes.size() == 8) {
                return -4;
            }
            processes.add(new Process(kind, delay, named[0], named[1], named[2], named[3], c, watched));
            return processes.size() - 1;
        }

        private void put(int signal, int value, int delay) {
            Change added = new Change(signal, value, time + delay, delay == 0);
            changes.removeIf(old -> old.signal == signal
                    && (added.nextCycle || !old.nextCycle && old.time >= added.time));
            changes.add(added);
        }

        int drive(int signal, int value, int delay) {
            if (signal < 0 || signal > 11) {
                return -1;
            }
            if (delay < 0 || delay > 9) {
                return -3;
            }
            put(signal, value, delay);
            return changes.size();
        }

        private void carryOut(Process p) {
            int x = values[p.x];
            int y = values[p.y];
            int result = switch (p.kind) {
                case 0 -> x + y;
                case 1 -> x & y;
                case 2 -> x ^ y;
                case 3 -> x + p.c;
                case 4 -> values[p.s] != 0 ? x : y;
                case 5 -> -x - 1;
                default -> throw new IllegalStateException();
            };
            put(p.target, result, p.delay);
        }

        int poke(int process) {
            if (process < 0 || process >= processes.size()) {
                return -2;
            }
            carryOut(processes.get(process));
            return changes.size();
        }

        int nextTime() {
            return changes.stream().mapToInt(Change::time).min().orElse(-5);
        }

        int step() {
            if (changes.isEmpty()) {
                return -5;
            }
            boolean sameTime = changes.stream().anyMatch(Change::nextCycle);
            if (!sameTime) {
                time = nextTime();
            }
            List<Change> left = new ArrayList<>();
            int[] before = values.clone();
            for (Change change : changes) {
                if (sameTime ? change.nextCycle : change.time == time) {
                    values[change.signal] = change.value;
                } else {
                    left.add(change);
                }
            }
            changes = left;
            boolean[] event = new boolean[12];
            int count = 0;
            for (int signal = 0; signal < 12; signal++) {
                if (values[signal] != before[signal]) {
                    event[signal] = true;
                    events[signal]++;
                    count++;
                }
            }
            for (Process p : processes) {
                boolean woken = false;
                for (int signal = 0; signal < 12; signal++) {
                    woken |= event[signal] && (p.watched >> signal & 1) == 1;
                }
                if (woken) {
                    carryOut(p);
                }
            }
            cycles++;
            return count;
        }

        int run(int units, int n) {
            int last = time + Math.max(0, Math.min(1000, units));
            int most = Math.max(0, Math.min(200, n));
            int done = 0;
            while (done < most && !changes.isEmpty() && nextTime() <= last) {
                step();
                done++;
            }
            return done;
        }

        void reset() {
            values = new int[12];
            events = new int[12];
            changes.clear();
            time = 0;
            cycles = 0;
        }

        int coming(int signal) {
            Change first = null;
            for (Change change : changes) {
                if (change.signal == signal && (first == null || change.nextCycle
                        || !first.nextCycle && change.time < first.time)) {
                    first = change;
                }
            }
            return first == null ? 0 : first.value;
        }

        int value(int signal) {
            return signal < 0 || signal > 11 ? 0 : values[signal];
        }

        int events(int signal) {
            return signal < 0 || signal > 11 ? 0 : events[signal];
        }
    }

    // Own numbers from a fixed seed: every run of the test makes the same calls.
    private static long seed = 20261115L;

    private static int below(int bound) {
        seed = seed * 6364136223846793005L + 1442695040888963407L;
        return (int) ((seed >>> 33) % bound);
    }

    private static int anyInt() {
        return below(1 << 16) << 16 | below(1 << 16);
    }

    private static int mostlyWithin(int bound) {
        return switch (below(24)) {
            case 0 -> -1;
            case 1 -> bound;
            case 2 -> anyInt();
            default -> below(bound);
        };
    }

    private static int someValue() {
        return below(8) == 0 ? anyInt() : below(5) - 2;
    }

    private static int wrong = 0;

    private static void compare(String call, int got, int want) {
        if (got != want) {
            wrong++;
            System.out.println(call + " answered " + got + ", the model " + want);
        }
    }

    private static int someSignals(int reach) {
        if (below(10) == 0) {
            return anyInt();
        }
        return below(reach) | below(reach) << 4 | below(reach) << 8 | below(reach) << 12;
    }

    private static int someHow() {
        return below(10) == 0 ? anyInt() : below(6) | (below(2) * below(10)) << 4;
    }

    private static void oneCall(DeltaCycles d, Model m, int reach, String where) {
        int a = mostlyWithin(reach);
        int v = someValue();
        switch (below(40)) {
            case 0 -> {
                int how = someHow();
                int signals = someSignals(reach);
                int watched = anyInt();
                compare(where + "process(" + how + ", " + signals + ", " + v + ", " + watched + ")",
                        d.process(how, signals, v, watched), m.process(how, signals, v, watched));
            }
            case 1, 2, 3, 4, 5, 6, 7 -> {
                int delay = mostlyWithin(10);
                compare(where + "drive(" + a + ", " + v + ", " + delay + ")", d.drive(a, v, delay), m.drive(a, v, delay));
            }
            case 8, 9 -> {
                int process = mostlyWithin(8);
                compare(where + "poke(" + process + ")", d.poke(process), m.poke(process));
            }
            case 10, 11, 12, 13, 14 -> compare(where + "step()", d.step(), m.step());
            case 15, 16 -> {
                int units = below(8) == 0 ? anyInt() : below(12) - 1;
                int n = below(8) == 0 ? anyInt() : below(8) - 1;
                compare(where + "run(" + units + ", " + n + ")", d.run(units, n), m.run(units, n));
            }
            case 17 -> {
                if (below(6) == 0) {
                    d.reset();
                    m.reset();
                }
            }
            default -> oneQuestion(d, m, a, where);
        }
    }

    private static void oneQuestion(DeltaCycles d, Model m, int a, String where) {
        switch (below(7)) {
            case 0 -> compare(where + "value(" + a + ")", d.value(a), m.value(a));
            case 1 -> compare(where + "time()", d.time(), m.time);
            case 2 -> compare(where + "pending()", d.pending(), m.changes.size());
            case 3 -> compare(where + "nextTime()", d.nextTime(), m.nextTime());
            case 4 -> compare(where + "events(" + a + ")", d.events(a), m.events(a));
            case 5 -> compare(where + "cycles()", d.cycles(), m.cycles);
            default -> compare(where + "coming(" + a + ")", d.coming(a), m.coming(a));
        }
    }

    private static void compareAll(DeltaCycles d, Model m, String where) {
        compare(where + "time()", d.time(), m.time);
        compare(where + "pending()", d.pending(), m.changes.size());
        compare(where + "nextTime()", d.nextTime(), m.nextTime());
        compare(where + "cycles()", d.cycles(), m.cycles);
        for (int signal = -1; signal <= 12; signal++) {
            compare(where + "value(" + signal + ")", d.value(signal), m.value(signal));
            compare(where + "events(" + signal + ")", d.events(signal), m.events(signal));
            compare(where + "coming(" + signal + ")", d.coming(signal), m.coming(signal));
        }
    }

    public static void main(String[] args) {
        for (int object = 0; object < OBJECTS && wrong == 0; object++) {
            DeltaCycles d = new DeltaCycles();
            Model m = new Model();
            int reach = object % 2 == 0 ? 4 : 12;
            int mixed = below(MIXED_CALLS) + 1;
            for (int call = 0; call < mixed && wrong == 0; call++) {
                oneCall(d, m, reach, "object " + object + ", call " + call + ": ");
            }
            compareAll(d, m, "object " + object + ", at the end ");
        }
        System.out.println(wrong == 0 ? "all answers are the model's" : "stopped at the first call that differs");
        if (wrong != 0) {
            System.exit(1);
        }
    }
}
