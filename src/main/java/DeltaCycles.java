/** A simulator of signals with delta cycles. */
public final class DeltaCycles {
    public static final int BAD_SIGNAL = -1;
    public static final int BAD_KIND = -2;
    public static final int BAD_DELAY = -3;
    public static final int FULL = -4;
    public static final int NOTHING = -5;

    private static final int SIGNALS = 12;
    private static final int PROCESSES = 8;
    private static final int MAX_CYCLES_OF_RUN = 200;
    private static final int MAX_UNITS_OF_RUN = 1000;

    private static final int SUM = 0;
    private static final int AND = 1;
    private static final int XOR = 2;
    private static final int INC = 3;
    private static final int MUX = 4;
    private static final int NOT = 5;

    // A pending change is never more than nine units away, and a signal has at most one for each
    // time. So each signal has ten slots, and the slot's number is the delay that is still to go
    // (0: the next delta cycle). Held so, no absolute time is kept that could outgrow an index.
    private static final int SLOTS = 10;
    private static final int CHANGES = SIGNALS * SLOTS;

    private final boolean[] changeIsPending = new boolean[CHANGES];
    private final int[] changeValue = new int[CHANGES];

    private final int[] signalValue = new int[SIGNALS];
    private final int[] signalEvents = new int[SIGNALS];

    private final int[] processKind = new int[PROCESSES];
    private final int[] processDelay = new int[PROCESSES];
    private final int[] processX = new int[PROCESSES];
    private final int[] processY = new int[PROCESSES];
    private final int[] processS = new int[PROCESSES];
    private final int[] processTarget = new int[PROCESSES];
    private final int[] processC = new int[PROCESSES];
    private final int[] processWatched = new int[PROCESSES];

    private int processCount = 0;
    private int now = 0;
    private int cyclesDone = 0;

    public DeltaCycles() {
    }

    public int process(int how, int signals, int c, int watched) {
        int x = signals & 15;
        int y = (signals >> 4) & 15;
        int s = (signals >> 8) & 15;
        int target = (signals >> 12) & 15;
        int kind = how & 7;
        int delay = (how >> 4) & 15;
        if (x >= SIGNALS || y >= SIGNALS || s >= SIGNALS || target >= SIGNALS) {
            return BAD_SIGNAL;
        }
        if (kind > NOT) {
            return BAD_KIND;
        }
        if (delay >= SLOTS) {
            return BAD_DELAY;
        }
        if (processCount >= PROCESSES) {
            return FULL;
        }
        int number = processCount;
        processKind[number] = kind;
        processDelay[number] = delay;
        processX[number] = x;
        processY[number] = y;
        processS[number] = s;
        processTarget[number] = target;
        processC[number] = c;
        processWatched[number] = watched;
        processCount = number + 1;
        return number;
    }

    public int drive(int signal, int value, int delay) {
        if (!isSignal(signal)) {
            return BAD_SIGNAL;
        }
        if (delay < 0 || delay >= SLOTS) {
            return BAD_DELAY;
        }
        putDown(signal, value, delay);
        return countPending();
    }

    public int poke(int process) {
        if (process < 0 || process >= processCount) {
            return BAD_KIND;
        }
        carryOut(process);
        return countPending();
    }

    public int step() {
        int wait = unitsToNextChange();
        if (wait == NOTHING) {
            return NOTHING;
        }
        return doCycleAfter(wait);
    }

    public int run(int units, int n) {
        int unitsLeft = limited(units, MAX_UNITS_OF_RUN);
        int most = limited(n, MAX_CYCLES_OF_RUN);
        int done = 0;
        while (done < most) {
            int wait = unitsToNextChange();
            if (wait == NOTHING || wait > unitsLeft) {
                break;
            }
            doCycleAfter(wait);
            unitsLeft -= wait;
            done++;
        }
        return done;
    }

    public void reset() {
        for (int signal = 0; signal < SIGNALS; signal++) {
            signalValue[signal] = 0;
            signalEvents[signal] = 0;
            takeOutFrom(signal, 0);
        }
        now = 0;
        cyclesDone = 0;
    }

    public int value(int signal) {
        return isSignal(signal) ? signalValue[signal] : 0;
    }

    public int time() {
        return now;
    }

    public int pending() {
        return countPending();
    }

    public int nextTime() {
        int wait = unitsToNextChange();
        return wait == NOTHING ? NOTHING : now + wait;
    }

    public int events(int signal) {
        return isSignal(signal) ? signalEvents[signal] : 0;
    }

    public int cycles() {
        return cyclesDone;
    }

    public int coming(int signal) {
        if (!isSignal(signal)) {
            return 0;
        }
        for (int delay = 0; delay < SLOTS; delay++) {
            int change = signal * SLOTS + delay;
            if (changeIsPending[change]) {
                return changeValue[change];
            }
        }
        return 0;
    }

    private static boolean isSignal(int signal) {
        return signal >= 0 && signal < SIGNALS;
    }

    private static int limited(int number, int most) {
        if (number < 0) {
            return 0;
        }
        return number > most ? most : number;
    }

    private int countPending() {
        int count = 0;
        for (int change = 0; change < CHANGES; change++) {
            if (changeIsPending[change]) {
                count++;
            }
        }
        return count;
    }

    private int unitsToNextChange() {
        for (int delay = 0; delay < SLOTS; delay++) {
            for (int signal = 0; signal < SIGNALS; signal++) {
                if (changeIsPending[signal * SLOTS + delay]) {
                    return delay;
                }
            }
        }
        return NOTHING;
    }

    private void takeOutFrom(int signal, int firstDelay) {
        for (int delay = firstDelay; delay < SLOTS; delay++) {
            changeIsPending[signal * SLOTS + delay] = false;
        }
    }

    private void putDown(int signal, int value, int delay) {
        takeOutFrom(signal, delay);
        int change = signal * SLOTS + delay;
        changeIsPending[change] = true;
        changeValue[change] = value;
    }

    private int doCycleAfter(int wait) {
        goForward(wait);
        int changed = takeNewValues();
        carryOutWatchersOf(changed);
        cyclesDone++;
        return countSignalsIn(changed);
    }

    // The changes that are due come to stand in slot 0, so that the first delta cycle of a time
    // is done like every other one.
    private void goForward(int units) {
        now += units;
        for (int signal = 0; signal < SIGNALS; signal++) {
            for (int delay = 0; delay < SLOTS; delay++) {
                int to = signal * SLOTS + delay;
                boolean comesNearer = delay + units < SLOTS && changeIsPending[to + units];
                changeIsPending[to] = comesNearer;
                if (comesNearer) {
                    changeValue[to] = changeValue[to + units];
                }
            }
        }
    }

    // Slot 0 is emptied before any process is carried out: what a process puts there is for the
    // next delta cycle, not for this one.
    private int takeNewValues() {
        int changed = 0;
        for (int signal = 0; signal < SIGNALS; signal++) {
            int change = signal * SLOTS;
            if (changeIsPending[change]) {
                changeIsPending[change] = false;
                if (signalValue[signal] != changeValue[change]) {
                    signalValue[signal] = changeValue[change];
                    signalEvents[signal]++;
                    changed |= 1 << signal;
                }
            }
        }
        return changed;
    }

    private void carryOutWatchersOf(int changed) {
        for (int process = 0; process < processCount; process++) {
            if ((processWatched[process] & changed) != 0) {
                carryOut(process);
            }
        }
    }

    private static int countSignalsIn(int set) {
        int count = 0;
        for (int signal = 0; signal < SIGNALS; signal++) {
            count += (set >> signal) & 1;
        }
        return count;
    }

    private void carryOut(int process) {
        int result = workOut(process);
        putDown(processTarget[process], result, processDelay[process]);
    }

    private int workOut(int process) {
        int x = signalValue[processX[process]];
        int y = signalValue[processY[process]];
        switch (processKind[process]) {
            case SUM:
                return x + y;
            case AND:
                return x & y;
            case XOR:
                return x ^ y;
            case INC:
                return x + processC[process];
            case MUX:
                return signalValue[processS[process]] != 0 ? x : y;
            default:
                // Only NOT is left: no other kind is ever added.
                return ~x;
        }
    }
}
