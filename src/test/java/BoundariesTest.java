import java.util.ArrayList;
import java.util.List;
import java.util.function.Consumer;
import java.util.function.ToIntFunction;

/**
 * Each sentence of the document that names a boundary case, with a test of its own: the last
 * input that is taken, the first that is refused or limited, and that nothing changes where the
 * sentence says so. No object is used for more than the 512 calls that the document speaks of.
 */
public final class BoundariesTest {
    private static final int SUM = 0, AND = 1, XOR = 2, INC = 3, MUX = 4, NOT = 5;
    private static final int BAD_SIGNAL = -1, BAD_KIND = -2, BAD_DELAY = -3, FULL = -4, NOTHING = -5;
    private static final int MIN = Integer.MIN_VALUE, MAX = Integer.MAX_VALUE;

    private static final int[] NO_SIGNALS = {-1, 12, 13, 16, 120, MIN, MIN + 11, MAX};

    // ---- how a fault is told ----

    private static int sentences = 0;
    private static int wrong = 0;

    private static void sentence(String where, String words, Runnable test) {
        int before = wrong;
        sentences++;
        try {
            test.run();
        } catch (RuntimeException thrown) {
            wrong++;
            System.out.println("  a call threw " + thrown);
        }
        if (wrong > before) {
            System.out.println("BROKEN, " + where + ": \"" + words + "\"");
        }
    }

    private static void due(String what, int got, int want) {
        if (got != want) {
            wrong++;
            System.out.println("  " + what + " answered " + got + ", due is " + want);
        }
    }

    private static void same(String what, List<Integer> got, List<Integer> want) {
        if (!got.equals(want)) {
            wrong++;
            System.out.println("  " + what + ":\n    told   " + got + "\n    due is " + want);
        }
    }

    // ---- objects to begin with ----

    private static int how(int kind, int delay) {
        return kind | delay << 4;
    }

    private static int signals(int x, int y, int s, int target) {
        return x | y << 4 | s << 8 | target << 12;
    }

    private static void setNow(DeltaCycles d, int signal, int value) {
        d.drive(signal, value, 0);
        d.step();
    }

    /** A process that turns signal 0 round again and again, each time after the delay. */
    private static DeltaCycles clock(int delay) {
        DeltaCycles d = new DeltaCycles();
        d.process(how(NOT, delay), signals(0, 0, 0, 0), 0, 1);
        d.poke(0);
        return d;
    }

    /** A state to begin with. What is done after the processes are added is known by itself. */
    private record Start(String name, int processes, Consumer<DeltaCycles> adding, Consumer<DeltaCycles> rest) {
        DeltaCycles made() {
            DeltaCycles d = madeWithoutRest();
            rest.accept(d);
            return d;
        }

        DeltaCycles madeWithoutRest() {
            DeltaCycles d = new DeltaCycles();
            adding.accept(d);
            return d;
        }
    }

    private static final List<Start> STARTS = List.of(
            new Start("a new object", 0, d -> { }, d -> { }),
            new Start("an idle object", 2, BoundariesTest::addTwo, BoundariesTest::becomeIdle),
            new Start("a busy object", 3, BoundariesTest::addThree, BoundariesTest::becomeBusy),
            new Start("a full object", 8, BoundariesTest::addEight, BoundariesTest::becomeBusy));

    private static void addTwo(DeltaCycles d) {
        d.process(how(INC, 2), signals(0, 0, 0, 1), 5, 1);
        d.process(how(NOT, 0), signals(11, 0, 0, 10), 0, 1 << 11);
    }

    private static void addThree(DeltaCycles d) {
        addTwo(d);
        d.process(how(MUX, 9), signals(0, 1, 2, 3), 0, 0b111);
    }

    private static void addEight(DeltaCycles d) {
        addThree(d);
        d.process(how(SUM, 1), signals(0, 1, 0, 4), 0, 0b11);
        d.process(how(AND, 3), signals(5, 6, 0, 7), 0, 0b1100000);
        d.process(how(XOR, 0), signals(5, 6, 0, 8), 0, 0b1100000);
        d.process(how(NOT, 5), signals(2, 0, 0, 11), 0, 1 << 2);
        d.process(how(INC, 4), signals(9, 0, 0, 9), 1, 1 << 9);
    }

    private static void becomeIdle(DeltaCycles d) {
        d.drive(0, 7, 3);
        d.drive(11, -7, 0);
        d.run(1000, 200);
    }

    private static void becomeBusy(DeltaCycles d) {
        d.drive(0, 7, 3);
        d.drive(2, 1, 0);
        d.drive(6, 6, 3);
        d.step();
        d.step();
        d.drive(4, 40, 0);
        d.drive(4, 41, 6);
        d.drive(5, 50, 1);
        d.drive(5, 51, 9);
        d.drive(11, 110, 0);
        d.drive(11, 111, 1);
        d.drive(11, 112, 8);
    }

    // ---- what an object tells ----

    private enum Question {
        VALUE, EVENTS, COMING, TIME, PENDING, NEXT_TIME, CYCLES;

        boolean isOfASignal() {
            return this == VALUE || this == EVENTS || this == COMING;
        }

        int ask(DeltaCycles d, int signal) {
            return switch (this) {
                case VALUE -> d.value(signal);
                case EVENTS -> d.events(signal);
                case COMING -> d.coming(signal);
                case TIME -> d.time();
                case PENDING -> d.pending();
                case NEXT_TIME -> d.nextTime();
                case CYCLES -> d.cycles();
            };
        }
    }

    private static void tell(List<Integer> told, DeltaCycles d, Question question, Question unasked) {
        int last = question.isOfASignal() ? 11 : 0;
        for (int signal = 0; signal <= last && question != unasked; signal++) {
            told.add(question.ask(d, signal));
        }
    }

    /** At most forty calls. */
    private static List<Integer> state(DeltaCycles d, Question unasked) {
        List<Integer> told = new ArrayList<>();
        for (Question question : Question.values()) {
            tell(told, d, question, unasked);
        }
        return told;
    }

    private static void tellSteps(List<Integer> told, DeltaCycles d, int steps, Question unasked) {
        for (int step = 0; step < steps; step++) {
            told.add(d.step());
            tell(told, d, Question.TIME, unasked);
            tell(told, d, Question.VALUE, unasked);
        }
    }

    /**
     * What the object tells now and what comes of it: its pending changes one after the other,
     * what its processes watch and what each does, and how many more it takes. Some 420 calls.
     * One question can be left unasked, so that what it changes is not changed by asking here.
     */
    private static List<Integer> future(DeltaCycles d, Question unasked) {
        List<Integer> told = state(d, unasked);
        tellSteps(told, d, 10, unasked);
        for (int signal = 0; signal < 12; signal++) {
            told.add(d.drive(signal, 1000 + 37 * signal, 0));
        }
        told.add(d.step());
        told.addAll(state(d, unasked));
        for (int process = 0; process <= 8; process++) {
            told.add(d.poke(process));
            tell(told, d, Question.COMING, unasked);
        }
        for (int more = 0; more <= 8; more++) {
            told.add(d.process(0, 0, 0, 0));
        }
        tellSteps(told, d, 4, unasked);
        return told;
    }

    private static List<Integer> future(DeltaCycles d) {
        return future(d, null);
    }

    private static void nothingChanged(String call, DeltaCycles d, DeltaCycles untouched) {
        same(call + " changed something", future(d), future(untouched));
    }

    private static void refused(String call, ToIntFunction<DeltaCycles> calling, int answer) {
        for (Start start : STARTS) {
            DeltaCycles d = start.made();
            String where = call + " on " + start.name;
            due(where, calling.applyAsInt(d), answer);
            nothingChanged(where, d, start.made());
        }
    }

    private static void alike(String what, Consumer<DeltaCycles> calling, Consumer<DeltaCycles> other) {
        for (Start start : STARTS) {
            DeltaCycles d = start.made();
            DeltaCycles twin = start.made();
            calling.accept(d);
            other.accept(twin);
            same(what + " on " + start.name, future(d), future(twin));
        }
    }

    // ---- What it is, and Terms ----

    private static void theLastOf512Calls() {
        DeltaCycles d = clock(5);
        for (int call = 3; call <= 509; call++) {
            due("call " + call + ", run", d.run(1000, 200), 200);
        }
        due("call 510, cycles", d.cycles(), 101400);
        due("call 511, events", d.events(0), 101400);
        due("call 512, time", d.time(), 507000);

        DeltaCycles refusing = new DeltaCycles();
        for (int call = 1; call <= 511; call++) {
            refusing.drive(12, 1, 0);
        }
        due("call 512, drive", refusing.drive(11, 1, 9), 1);
    }

    private static void twelveSignals() {
        DeltaCycles d = new DeltaCycles();
        for (int signal = 0; signal < 12; signal++) {
            due("drive of signal " + signal, d.drive(signal, 100 + signal, 0), signal + 1);
        }
        due("signal 12", d.drive(12, 1, 0), BAD_SIGNAL);
        due("signal -1", d.drive(-1, 1, 0), BAD_SIGNAL);
        due("step", d.step(), 12);
        for (int signal = 0; signal < 12; signal++) {
            due("value of signal " + signal, d.value(signal), 100 + signal);
        }
    }

    private static int result(int kind, int c, int x, int y, int s) {
        DeltaCycles d = new DeltaCycles();
        d.process(how(kind, 0), signals(1, 2, 3, 4), c, 0);
        setNow(d, 1, x);
        setNow(d, 2, y);
        setNow(d, 3, s);
        d.poke(0);
        int coming = d.coming(4);
        d.step();
        due("the value is the one that was coming", d.value(4), coming);
        return coming;
    }

    private static void valuesAreIntsThatWrap() {
        int[] values = {MIN, MIN + 1, -65536, -32769, -129, -1, 0, 1, 128, 32768, 65536, MAX - 1, MAX};
        for (int value : values) {
            DeltaCycles d = new DeltaCycles();
            d.drive(0, value, 0);
            d.drive(11, value, 9);
            due("coming", d.coming(0), value);
            due("coming later", d.coming(11), value);
            d.run(9, 2);
            due("value", d.value(0), value);
            due("value later", d.value(11), value);
        }
        due("MAX + 0 does not wrap", result(SUM, 0, MAX, 0, 0), MAX);
        due("MAX + 1 wraps", result(SUM, 0, MAX, 1, 0), MIN);
        due("MIN + 0 does not wrap", result(SUM, 0, MIN, 0, 0), MIN);
        due("MIN - 1 wraps", result(SUM, 0, MIN, -1, 0), MAX);
        due("MAX + MAX wraps", result(SUM, 0, MAX, MAX, 0), -2);
        due("MIN + MIN wraps", result(SUM, 0, MIN, MIN, 0), 0);
    }

    private static void upToEightProcesses() {
        DeltaCycles d = new DeltaCycles();
        for (int number = 0; number < 8; number++) {
            due("there is no process " + number + " yet", d.poke(number), BAD_KIND);
            due("process", d.process(how(INC, 0), signals(0, 0, 0, number), 100 + number, 1), number);
        }
        due("a ninth", d.process(how(INC, 0), signals(0, 0, 0, 8), 108, 1), FULL);
        setNow(d, 0, 1000);
        for (int number = 0; number < 8; number++) {
            due("what process " + number + " put down", d.coming(number), 1100 + number);
        }
        due("no more than eight did", d.pending(), 8);
    }

    private static void andAndXorBitByBit() {
        for (int bit = 0; bit < 32; bit++) {
            int one = 1 << bit;
            due("AND, both", result(AND, -1, one, -1, 0), one);
            due("AND, only x", result(AND, -1, one, ~one, 0), 0);
            due("AND, only y", result(AND, -1, ~one, one, 0), 0);
            due("XOR, both", result(XOR, -1, one, one, 0), 0);
            due("XOR, only x", result(XOR, -1, one, 0, 0), one);
            due("XOR, only y", result(XOR, -1, 0, one, 0), one);
        }
    }

    private static void muxLooksForZero() {
        due("s is 0", result(MUX, 1, 5, 7, 0), 7);
        for (int bit = 0; bit < 32; bit++) {
            due("s is bit " + bit, result(MUX, 0, 5, 7, 1 << bit), 5);
        }
        due("s is -1", result(MUX, 0, 5, 7, -1), 5);
        due("s is MAX", result(MUX, 0, 5, 7, MAX), 5);
        due("s is 0, x is 0", result(MUX, 1, 0, 7, 0), 7);
        due("s is 1, x is 0", result(MUX, 0, 0, 7, 1), 0);
    }

    private static void notTurnsAllBits() {
        due("0", result(NOT, 1, 0, 3, 1), -1);
        due("-1", result(NOT, 1, -1, 3, 1), 0);
        due("MAX", result(NOT, 1, MAX, 3, 1), MIN);
        due("MIN", result(NOT, 1, MIN, 3, 1), MAX);
        due("1", result(NOT, 1, 1, 3, 1), -2);
    }

    private static void delayOfZero() {
        DeltaCycles driven = new DeltaCycles();
        setNow(driven, 0, 1);
        driven.drive(1, 1, 4);
        driven.step();
        driven.drive(2, 2, 0);
        driven.drive(3, 3, 1);
        due("delay 0 comes first", driven.step(), 1);
        due("at the same time", driven.time(), 4);
        due("delay 0 has come", driven.value(2), 2);
        due("delay 1 has not", driven.value(3), 0);

        DeltaCycles d = new DeltaCycles();
        d.process(how(INC, 0), signals(0, 0, 0, 1), 1, 1);
        d.drive(0, 5, 6);
        d.step();
        due("not in the cycle of the process itself", d.value(1), 0);
        due("it is pending", d.pending(), 1);
        due("for the same time", d.nextTime(), 6);
        d.step();
        due("but in the next one", d.value(1), 6);
        due("of the same time", d.time(), 6);
    }

    private static void delaysOfOneToNine() {
        for (int delay = 1; delay <= 9; delay++) {
            DeltaCycles d = new DeltaCycles();
            due("process", d.process(how(INC, delay), signals(0, 0, 0, 1), 1, 1), 0);
            d.drive(0, 5, delay);
            due("next time", d.nextTime(), delay);
            d.step();
            due("the time of the drive", d.time(), delay);
            due("next time, by the process", d.nextTime(), 2 * delay);
            due("one unit before it", d.run(delay - 1, 200), 0);
            due("at it", d.run(delay, 200), 1);
            due("the time of the process's change", d.time(), 2 * delay);
            due("value", d.value(1), 6);
        }
    }

    private static void severalPendingChanges() {
        for (int signal = 0; signal < 12; signal += 11) {
            DeltaCycles d = new DeltaCycles();
            for (int delay = 0; delay <= 9; delay++) {
                due("drive", d.drive(signal, 10 + delay, delay), delay + 1);
            }
            for (int delay = 0; delay <= 9; delay++) {
                due("coming", d.coming(signal), 10 + delay);
                due("pending", d.pending(), 10 - delay);
                due("step", d.step(), 1);
                due("value", d.value(signal), 10 + delay);
                due("time", d.time(), delay);
            }
            due("no more", d.step(), NOTHING);
        }
    }

    private static void sameTimeOrLaterIsTakenOut() {
        for (int before = 0; before <= 9; before++) {
            for (int after = 0; after <= 9; after++) {
                int left = before < after ? 2 : 1;
                String pair = "a change with delay " + after + " after one with " + before;
                DeltaCycles d = new DeltaCycles();
                d.drive(5, 1, before);
                due(pair, d.drive(5, 2, after), left);
                due(pair + ", coming", d.coming(5), left == 2 ? 1 : 2);
                due(pair + ", run", d.run(9, 200), left);
                due(pair + ", value", d.value(5), 2);
                due(pair + ", time", d.time(), after);

                DeltaCycles by = new DeltaCycles();
                by.process(how(INC, after), signals(0, 0, 0, 5), 2, 0);
                by.drive(5, 1, before);
                due(pair + ", by a process", by.poke(0), left);
                due(pair + ", by a process, coming", by.coming(5), left == 2 ? 1 : 2);

                DeltaCycles other = new DeltaCycles();
                other.drive(4, 1, before);
                other.drive(6, 3, before);
                due(pair + ", other signals", other.drive(5, 2, after), 3);
                due(pair + ", the signal below", other.coming(4), 1);
                due(pair + ", the signal above", other.coming(6), 3);
            }
        }
    }

    private static void theSameTimeFromAnotherTime() {
        DeltaCycles d = new DeltaCycles();
        d.drive(5, 8, 8);
        d.drive(5, 9, 9);
        d.drive(0, 1, 3);
        d.step();
        due("another signal takes nothing out", d.drive(6, 1, 9), 3);
        due("time 3 + 6 takes out 9 and leaves 8", d.drive(5, 90, 6), 3);
        due("coming", d.coming(5), 8);
        due("time 3 + 5 takes out 8 and 9", d.drive(5, 80, 5), 2);
        due("coming", d.coming(5), 80);
        due("time 3 + 9 leaves 8", d.drive(5, 120, 9), 3);
        due("run", d.run(9, 200), 2);
        due("value", d.value(5), 120);
        due("events of the signal", d.events(5), 2);
    }

    private static void nextCycleTakesOutAllOthers() {
        DeltaCycles d = new DeltaCycles();
        for (int delay = 0; delay <= 9; delay++) {
            d.drive(4, 40 + delay, delay);
            d.drive(5, 50 + delay, delay);
            d.drive(6, 60 + delay, delay);
        }
        due("thirty are pending", d.pending(), 30);
        due("all ten of its signal are taken out", d.drive(5, 5, 0), 21);
        due("it is the one that comes", d.coming(5), 5);
        d.run(9, 200);
        due("nothing else came", d.value(5), 5);
        due("one event", d.events(5), 1);
        due("the signal below keeps all ten", d.events(4), 10);
        due("the signal above keeps all ten", d.events(6), 10);
    }

    private static void earlierOnesAndTheNextCycleAreLeft() {
        for (int t = 1; t <= 9; t++) {
            DeltaCycles d = new DeltaCycles();
            for (int delay = 0; delay <= 9; delay++) {
                d.drive(5, 50 + delay, delay);
            }
            due("put down for " + t, d.drive(5, 99, t), t + 1);
            for (int delay = 0; delay < t; delay++) {
                due("left for " + delay, d.coming(5), 50 + delay);
                d.step();
                due("time of what is left", d.time(), delay);
            }
            due("put down for " + t + " is the last", d.coming(5), 99);
            d.step();
            due("its time", d.time(), t);
            due("nothing follows", d.pending(), 0);
        }
    }

    private static void allTakeTheirValuesAtOnce() {
        DeltaCycles swap = new DeltaCycles();
        swap.process(how(INC, 0), signals(0, 0, 0, 11), 0, 1 | 1 << 11);
        swap.process(how(INC, 0), signals(11, 0, 0, 0), 0, 1 | 1 << 11);
        swap.drive(0, 10, 0);
        swap.drive(11, 20, 0);
        due("both come", swap.step(), 2);
        due("both are swapped", swap.step(), 2);
        due("first", swap.value(0), 20);
        due("last", swap.value(11), 10);

        DeltaCycles sum = new DeltaCycles();
        sum.process(how(SUM, 0), signals(0, 11, 0, 5), 0, 1);
        sum.drive(0, 10, 3);
        sum.drive(11, 20, 3);
        sum.step();
        due("a process sees the last signal's new value too", sum.coming(5), 30);
    }

    private static void anotherValueIsAnEvent() {
        for (int bit = 0; bit < 32; bit++) {
            DeltaCycles d = new DeltaCycles();
            d.process(how(NOT, 9), signals(0, 0, 0, 1), 0, 1);
            d.drive(0, 1 << bit, 0);
            due("another value", d.step(), 1);
            due("events", d.events(0), 1);
            due("the watching process is carried out", d.pending(), 1);
            d.drive(0, 1 << bit, 0);
            due("the same value", d.step(), 0);
            due("events stay", d.events(0), 1);
            d.drive(0, 0, 0);
            due("back to 0", d.step(), 1);
            due("events", d.events(0), 2);
        }
        DeltaCycles zero = new DeltaCycles();
        zero.process(how(NOT, 9), signals(0, 0, 0, 1), 0, 1);
        zero.drive(0, 0, 0);
        due("0 on a new signal", zero.step(), 0);
        due("no event", zero.events(0), 0);
        due("no process is carried out", zero.pending(), 0);
    }

    private static void watchersInOrder() {
        DeltaCycles d = new DeltaCycles();
        for (int number = 0; number < 8; number++) {
            d.process(how(INC, 0), signals(0, 0, 0, 5), 1 + number, 1);
        }
        setNow(d, 0, 100);
        due("the last one's change stays", d.coming(5), 108);
        due("one change", d.pending(), 1);

        DeltaCycles two = new DeltaCycles();
        two.process(how(INC, 3), signals(0, 0, 0, 5), 1, 1);
        two.process(how(INC, 7), signals(0, 0, 0, 5), 2, 1);
        two.process(how(INC, 7), signals(0, 0, 0, 6), 3, 1);
        two.process(how(INC, 3), signals(0, 0, 0, 6), 4, 1);
        setNow(two, 0, 100);
        due("3 then 7 are two, 7 then 3 is one", two.pending(), 3);
        due("coming of 5", two.coming(5), 101);
        due("coming of 6", two.coming(6), 104);

        DeltaCycles none = new DeltaCycles();
        none.process(how(NOT, 0), signals(0, 0, 0, 0), 0, 0);
        none.process(how(NOT, 0), signals(0, 0, 0, 0), 0, 2);
        setNow(none, 0, 100);
        due("none watches signal 0", none.pending(), 0);
        none.drive(0, 100, 0);
        none.drive(1, 100, 0);
        due("an event on signal 1 alone", none.step(), 1);
        due("carries its watcher out", none.coming(0), ~100);
    }

    private static void nextCycleBeforeTimeGoesOn() {
        for (int later = 1; later <= 9; later++) {
            DeltaCycles d = new DeltaCycles();
            d.drive(0, 1, later);
            d.drive(11, 1, 0);
            due("step", d.step(), 1);
            due("time stays", d.time(), 0);
            due("the next cycle's value", d.value(11), 1);
            due("the later value", d.value(0), 0);
            due("step", d.step(), 1);
            due("time goes on", d.time(), later);
            due("the later value", d.value(0), 1);
        }
    }

    private static void timeGoesOnToTheSmallest() {
        for (int first = 1; first <= 9; first++) {
            for (int second = 1; second <= 9; second++) {
                DeltaCycles d = new DeltaCycles();
                d.drive(0, 1, first);
                d.drive(11, 1, second);
                due("step", d.step(), first == second ? 2 : 1);
                due("the smaller time", d.time(), Math.min(first, second));
                due("signal 0", d.value(0), first <= second ? 1 : 0);
                due("signal 11", d.value(11), second <= first ? 1 : 0);
                due("left", d.pending(), first == second ? 0 : 1);
                due("step", d.step(), first == second ? NOTHING : 1);
                due("the greater time", d.time(), Math.max(first, second));
            }
        }
    }

    private static void allChangesOfATimeMakeOneCycle() {
        DeltaCycles d = new DeltaCycles();
        for (int signal = 0; signal < 12; signal++) {
            d.drive(signal, 1, 9);
        }
        due("all twelve", d.step(), 12);
        due("one cycle", d.cycles(), 1);
        due("none is left", d.pending(), 0);
        due("time", d.time(), 9);

        DeltaCycles from = new DeltaCycles();
        from.drive(0, 1, 9);
        from.drive(1, 1, 5);
        from.step();
        from.drive(2, 1, 4);
        due("put down at different times for the same one", from.step(), 2);
        due("time", from.time(), 9);
    }

    private static List<Integer> askedWidely(DeltaCycles d, Question question) {
        List<Integer> told = new ArrayList<>(List.of(question.ask(d, MIN), question.ask(d, MAX)));
        for (int signal = -1; signal <= 12; signal++) {
            told.add(question.ask(d, signal));
        }
        return told;
    }

    private static void theQuestionsChangeNothing() {
        for (Question question : Question.values()) {
            for (Start start : STARTS) {
                DeltaCycles d = start.made();
                same(question + " asked again on " + start.name, askedWidely(d, question), askedWidely(d, question));
                same(question + " on " + start.name + " changed something",
                        future(d, question), future(start.made(), question));
            }
        }
    }

    // ---- Promises 1 to 5 ----

    private static void aNewObject() {
        DeltaCycles d = new DeltaCycles();
        for (int signal = 0; signal < 12; signal++) {
            due("value", d.value(signal), 0);
            due("events", d.events(signal), 0);
            due("coming", d.coming(signal), 0);
        }
        due("time", d.time(), 0);
        due("pending", d.pending(), 0);
        due("nextTime", d.nextTime(), NOTHING);
        due("cycles", d.cycles(), 0);
        due("step", d.step(), NOTHING);
        due("run", d.run(1000, 200), 0);
        for (int process = 0; process < 8; process++) {
            due("poke", d.poke(process), BAD_KIND);
        }
    }

    private static void signalsOfAProcessAbove11() {
        for (int kind = SUM; kind <= NOT; kind++) {
            int how = how(kind, 9);
            for (int place = 0; place < 16; place += 4) {
                int taken = 11 << place;
                due("11 at bit " + place + ", kind " + kind, new DeltaCycles().process(how, taken, 0, 1), 0);
                for (int bad = 12; bad <= 15; bad++) {
                    int tooGreat = bad << place;
                    refused(bad + " at bit " + place + ", kind " + kind,
                            d -> d.process(how, tooGreat, 0, 1), BAD_SIGNAL);
                }
            }
        }
        int eleven = signals(11, 11, 11, 11);
        int twelve = signals(12, 12, 12, 12);
        refused("all four are 12", d -> d.process(0, twelve, 0, 1), BAD_SIGNAL);
        DeltaCycles d = new DeltaCycles();
        due("all four are 11", d.process(how(SUM, 0), eleven, 0, 0), 0);
        setNow(d, 11, 21);
        due("poke", d.poke(0), 1);
        due("x, y and the target are signal 11", d.coming(11), 42);
        DeltaCycles mux = new DeltaCycles();
        due("s is 11", mux.process(how(MUX, 0), signals(0, 1, 11, 2), 0, 0), 0);
        setNow(mux, 0, 5);
        setNow(mux, 1, 6);
        mux.poke(0);
        due("s is 0", mux.coming(2), 6);
        setNow(mux, 11, 1);
        mux.poke(0);
        due("s is 1", mux.coming(2), 5);
    }

    private static void kindAbove5() {
        DeltaCycles d = new DeltaCycles();
        due("kind 5", d.process(how(5, 0), signals(0, 0, 0, 1), 0, 0), 0);
        due("poke", d.poke(0), 1);
        due("kind 5 is NOT", d.coming(1), -1);
        refused("kind 6", o -> o.process(how(6, 0), 0, 0, 1), BAD_KIND);
        refused("kind 7", o -> o.process(how(7, 9), 0, 0, 1), BAD_KIND);
    }

    private static void delayOfAProcessAbove9() {
        DeltaCycles d = new DeltaCycles();
        due("delay 9", d.process(how(NOT, 9), signals(0, 0, 0, 1), 0, 0), 0);
        due("poke", d.poke(0), 1);
        due("it comes at 9", d.nextTime(), 9);
        for (int delay = 10; delay <= 15; delay++) {
            int how = how(NOT, delay);
            refused("delay " + delay, o -> o.process(how, 0, 0, 1), BAD_DELAY);
        }
    }

    private static void thereAreEight() {
        for (Start start : STARTS) {
            DeltaCycles d = start.made();
            for (int number = start.processes; number < 8; number++) {
                due("process on " + start.name, d.process(how(SUM, 0), 0, 0, 0), number);
            }
            due("a ninth on " + start.name, d.process(how(SUM, 0), 0, 0, 0), FULL);
        }
        Start full = STARTS.get(3);
        for (int kind = SUM; kind <= NOT; kind++) {
            DeltaCycles d = full.made();
            due("a ninth", d.process(how(kind, 9), signals(1, 2, 3, 4), 5, -1), FULL);
            due("a tenth", d.process(how(kind, 0), signals(1, 2, 3, 4), 5, -1), FULL);
            nothingChanged("a ninth", d, full.made());
        }
    }

    private static void watchedBitsZeroToEleven() {
        for (int bit = 0; bit < 12; bit++) {
            DeltaCycles d = new DeltaCycles();
            d.process(how(NOT, 9), signals(0, 0, 0, 0), 0, 1 << bit);
            d.process(how(NOT, 8), signals(0, 0, 0, 1), 0, 0xFFF & ~(1 << bit));
            for (int signal = 0; signal < 12; signal++) {
                d.reset();
                setNow(d, signal, 1);
                due("bit " + bit + ", event on " + signal, d.nextTime(), signal == bit ? 9 : 8);
                due("one of the two", d.pending(), 1);
            }
        }
    }

    private static void notCarriedOutWhenAdded() {
        for (Start start : STARTS.subList(0, 3)) {
            for (int delay = 0; delay <= 9; delay++) {
                DeltaCycles d = start.made();
                List<Integer> before = state(d, null);
                for (int kind = SUM; kind <= NOT && start.processes + kind < 8; kind++) {
                    due("process on " + start.name, d.process(how(kind, delay), signals(0, 1, 2, 5), 3, -1),
                            start.processes + kind);
                }
                same("a process added to " + start.name, state(d, null), before);
            }
        }
    }

    private static void processAnswersItsNumber() {
        DeltaCycles d = new DeltaCycles();
        due("the first", d.process(how(NOT, 9), signals(11, 11, 11, 11), MAX, 0xFFF), 0);
        d.process(0, signals(12, 0, 0, 0), 0, 0);
        due("a refused one uses up no number", d.process(0, 0, MIN, 0), 1);
        d.process(how(6, 0), 0, 0, 0);
        due("nor does one of no kind", d.process(0, 0, 0, 0), 2);
        d.process(how(0, 10), 0, 0, 0);
        due("nor one with no delay", d.process(0, 0, 0, 0), 3);
    }

    private static void driveOfNoSignal() {
        for (int bad : NO_SIGNALS) {
            refused("drive of signal " + bad, d -> d.drive(bad, 77, 0), BAD_SIGNAL);
            refused("drive of signal " + bad + " later", d -> d.drive(bad, 77, 9), BAD_SIGNAL);
        }
        for (int signal = 0; signal < 12; signal += 11) {
            DeltaCycles d = new DeltaCycles();
            due("drive of signal " + signal, d.drive(signal, 77, 0), 1);
            due("coming", d.coming(signal), 77);
            due("step", d.step(), 1);
            due("value", d.value(signal), 77);
        }
    }

    private static void driveWithNoDelay() {
        int[] bad = {-1, 10, 11, 16, 100, MIN, MIN + 9, MAX};
        for (int delay : bad) {
            for (int signal = 0; signal < 12; signal++) {
                int driven = signal;
                refused("drive with delay " + delay, d -> d.drive(driven, 77, delay), BAD_DELAY);
            }
        }
        for (int delay = 0; delay <= 9; delay += 9) {
            DeltaCycles d = new DeltaCycles();
            due("drive with delay " + delay, d.drive(5, 77, delay), 1);
            due("it comes then", d.nextTime(), delay);
            d.step();
            due("value", d.value(5), 77);
            due("time", d.time(), delay);
        }
    }

    private static void driveIsAsAProcessWould() {
        for (Start start : STARTS.subList(0, 3)) {
            for (int delay = 0; delay <= 9; delay++) {
                for (int target = 0; target < 12; target++) {
                    DeltaCycles driven = start.made();
                    DeltaCycles poked = start.made();
                    int value = driven.value(0) + 77;
                    driven.process(how(INC, delay), signals(0, 0, 0, target), 77, 0);
                    poked.process(how(INC, delay), signals(0, 0, 0, target), 77, 0);
                    String call = "drive(" + target + ", " + value + ", " + delay + ") on " + start.name;
                    due(call, driven.drive(target, value, delay), poked.poke(start.processes));
                    same(call + " and the process", future(driven), future(poked));
                }
            }
        }
    }

    private static void driveAnswersHowManyArePending() {
        DeltaCycles d = new DeltaCycles();
        int count = 0;
        for (int delay = 0; delay <= 9; delay++) {
            for (int signal = 0; signal < 12; signal++) {
                count++;
                due("up to the most that there can be", d.drive(signal, delay, delay), count);
            }
        }
        due("the most", d.pending(), 120);
        due("one takes ten out", d.drive(0, 0, 0), 111);
        due("one takes itself out", d.drive(11, 0, 9), 111);
        DeltaCycles same = new DeltaCycles();
        due("the value that a signal has is put down too", same.drive(3, 0, 9), 1);
    }

    private static void pokeIsOutsideAnyCycle() {
        DeltaCycles d = new DeltaCycles();
        for (int number = 0; number < 8; number++) {
            d.process(how(INC, number), signals(0, 0, 0, 11), 100 + number, 0xFFF);
        }
        due("the last", d.poke(7), 1);
        due("the first takes its change out", d.poke(0), 1);
        due("what the first put down", d.coming(11), 100);
        due("the last again", d.poke(7), 2);
        due("no cycle", d.cycles(), 0);
        due("no time", d.time(), 0);
        due("no value", d.value(11), 0);
        due("no event", d.events(11), 0);
        d.drive(0, 1000, 0);
        d.poke(0);
        due("it sees values, not what is coming", d.coming(11), 100);
    }

    private static void pokeAnswersHowManyArePending() {
        for (Start start : STARTS) {
            for (int process = 0; process < start.processes; process++) {
                DeltaCycles d = start.made();
                int answer = d.poke(process);
                due("poke(" + process + ") on " + start.name, answer, d.pending());
                due("poke(" + process + ") again on " + start.name, d.poke(process), answer);
            }
        }
        DeltaCycles most = new DeltaCycles();
        most.process(how(SUM, 0), signals(0, 0, 0, 11), 0, 0);
        for (int delay = 0; delay <= 9; delay++) {
            for (int signal = 0; signal < 12; signal++) {
                most.drive(signal, 1, delay);
            }
        }
        due("one takes ten of 120 out", most.poke(0), 111);
    }

    private static void pokeOfNoProcess() {
        for (Start start : STARTS) {
            int[] bad = {start.processes, start.processes + 1, 8, 9, 16, -1, -8, MIN, MAX};
            for (int process : bad) {
                DeltaCycles d = start.made();
                String call = "poke(" + process + ") on " + start.name;
                due(call, d.poke(process), BAD_KIND);
                nothingChanged(call, d, start.made());
            }
            for (int process = 0; process < start.processes; process++) {
                DeltaCycles d = start.madeWithoutRest();
                due("poke(" + process + ") on " + start.name, d.poke(process), 1);
            }
        }
    }

    private static void stepAdvancesIfNeedBe() {
        DeltaCycles d = new DeltaCycles();
        d.drive(0, 1, 0);
        d.step();
        due("no need", d.time(), 0);
        d.drive(0, 2, 1);
        d.step();
        due("one unit", d.time(), 1);
        d.drive(0, 3, 9);
        d.step();
        due("nine units", d.time(), 10);
        due("cycles", d.cycles(), 3);
    }

    private static void stepWithNothingPending() {
        for (Start start : STARTS.subList(0, 2)) {
            DeltaCycles d = start.made();
            due("step on " + start.name, d.step(), NOTHING);
            due("step again on " + start.name, d.step(), NOTHING);
            nothingChanged("step on " + start.name, d, start.made());
        }
        for (int delay = 0; delay <= 9; delay++) {
            DeltaCycles d = new DeltaCycles();
            d.drive(11, 1, delay);
            due("one change, delay " + delay, d.step(), 1);
            due("none is left", d.step(), NOTHING);
            due("time stays", d.time(), delay);
            due("cycles stay", d.cycles(), 1);
        }
        for (Start start : STARTS) {
            DeltaCycles d = start.made();
            d.reset();
            due("step after reset of " + start.name, d.step(), NOTHING);
        }
    }

    private static void stepAnswersHowManyHadAnEvent() {
        for (int count = 0; count <= 12; count++) {
            DeltaCycles d = new DeltaCycles();
            for (int signal = 0; signal < 12; signal++) {
                d.drive(signal, signal < count ? 1 : 0, 3);
            }
            due("from the first signal on", d.step(), count);
            DeltaCycles last = new DeltaCycles();
            for (int signal = 0; signal < 12; signal++) {
                last.drive(signal, signal >= 12 - count ? MIN : 0, 0);
            }
            due("up to the last signal", last.step(), count);
        }
    }

    // ---- Promises 6 and 7 ----

    private static void runOfAtMostN() {
        due("n is 1", clock(0).run(0, 1), 1);
        due("n is 199", clock(0).run(0, 199), 199);
        due("n is 200", clock(0).run(0, 200), 200);
        due("n is 201", clock(0).run(0, 201), 200);
        due("n is 256", clock(0).run(0, 256), 200);
        due("n is MAX", clock(0).run(0, MAX), 200);
        DeltaCycles d = clock(0);
        d.run(0, 201);
        due("cycles", d.cycles(), 200);
        due("events", d.events(0), 200);
        due("value after an even number of turns", d.value(0), 0);
        due("one more is pending", d.pending(), 1);
        int[] none = {0, -1, -200, MIN};
        for (int n : none) {
            refused("run(1000, " + n + ")", o -> o.run(1000, n), 0);
        }
        alike("n 201 and n 200", o -> o.run(1000, 201), o -> o.run(1000, 200));
    }

    private static void runOnlyUpToTheLastTime() {
        for (int start = 0; start <= 9; start++) {
            for (int delay = 0; delay <= 9; delay++) {
                for (int units = 0; units <= 10; units++) {
                    DeltaCycles d = new DeltaCycles();
                    d.drive(0, 1, start);
                    d.step();
                    d.drive(1, 1, delay);
                    String call = "run(" + units + ", 200) at " + start + ", a change after " + delay;
                    due(call, d.run(units, 200), delay <= units ? 1 : 0);
                    due(call + ", time", d.time(), delay <= units ? start + delay : start);
                    due(call + ", pending", d.pending(), delay <= units ? 0 : 1);
                }
            }
        }
        DeltaCycles chain = new DeltaCycles();
        chain.process(how(INC, 0), signals(0, 0, 0, 1), 1, 1);
        chain.process(how(INC, 0), signals(1, 0, 0, 2), 1, 2);
        chain.process(how(INC, 1), signals(2, 0, 0, 3), 1, 4);
        chain.drive(0, 5, 4);
        due("one unit too few", chain.run(3, 200), 0);
        due("every delta cycle of the last time", chain.run(4, 200), 3);
        due("but not the one after it", chain.pending(), 1);
        due("time", chain.time(), 4);
        due("the last time is the one at the call", clock(3).run(10, 200), 3);
    }

    private static void runOfUnits() {
        due("units 0, a change now", clock(0).run(0, 5), 5);
        due("units -1, a change now", clock(0).run(-1, 5), 5);
        due("units MIN, a change now", clock(0).run(MIN, 5), 5);
        due("units 0, a change after 1", clock(1).run(0, 5), 0);
        due("units 1, a change after 1", clock(1).run(1, 5), 1);
        due("units 999, changes at 992 and 1000", clock(8).run(999, 200), 124);
        due("units 1000, a change at 1000", clock(8).run(1000, 200), 125);
        due("units 1000, changes at 994 and 1001", clock(7).run(1000, 200), 142);
        due("units 1001, changes at 994 and 1001", clock(7).run(1001, 200), 142);
        due("units 1008, changes at 999 and 1008", clock(9).run(1008, 200), 111);
        due("units MAX, changes at 994 and 1001", clock(7).run(MAX, 200), 142);
        DeltaCycles later = clock(7);
        later.run(994, 200);
        due("units MAX at time 994", later.run(MAX, 200), 142);
        due("time", later.time(), 1988);
        due("units -1 at time 1988", later.run(-1, 200), 0);
        due("time stays", later.time(), 1988);
        alike("units -1 and 0", o -> o.run(-1, 200), o -> o.run(0, 200));
        alike("units MIN and 0", o -> o.run(MIN, 200), o -> o.run(0, 200));
        alike("units 1001 and 1000", o -> o.run(1001, 200), o -> o.run(1000, 200));
    }

    private static void runAnswersHowManyWereDone() {
        for (Start start : STARTS.subList(0, 2)) {
            DeltaCycles d = start.made();
            due("run on " + start.name, d.run(1000, 200), 0);
            nothingChanged("run on " + start.name, d, start.made());
        }
        DeltaCycles silent = new DeltaCycles();
        for (int delay = 0; delay <= 9; delay++) {
            silent.drive(0, 0, delay);
        }
        due("cycles without an event are done too", silent.run(9, 200), 10);
        due("cycles", silent.cycles(), 10);
        due("events", silent.events(0), 0);
        for (Start start : STARTS) {
            for (int n = 0; n <= 12; n++) {
                DeltaCycles d = start.made();
                DeltaCycles twin = start.made();
                int before = d.cycles();
                int done = d.run(1000, n);
                due("cycles of run on " + start.name, d.cycles(), before + done);
                for (int cycle = 0; cycle < done; cycle++) {
                    twin.step();
                }
                same("run and as many steps on " + start.name, future(d), future(twin));
            }
        }
    }

    private static void resetButProcessesStay() {
        for (Start start : STARTS) {
            DeltaCycles d = start.made();
            d.reset();
            same("reset of " + start.name, future(d), future(start.madeWithoutRest()));
            DeltaCycles twice = start.made();
            twice.reset();
            twice.reset();
            same("two resets of " + start.name, future(twice), future(start.madeWithoutRest()));
        }
        DeltaCycles most = new DeltaCycles();
        for (int delay = 0; delay <= 9; delay++) {
            for (int signal = 0; signal < 12; signal++) {
                most.drive(signal, 1 + delay, delay);
            }
        }
        most.run(5, 200);
        most.reset();
        same("reset with the most changes", state(most, null), state(new DeltaCycles(), null));
        due("none of them comes", most.run(1000, 200), 0);
    }

    private static void sinceTheStartOrTheLastReset() {
        DeltaCycles d = clock(1);
        d.process(how(INC, 0), signals(0, 0, 0, 11), 0, 1);
        due("run", d.run(10, 200), 20);
        due("events of 0 since the start", d.events(0), 10);
        due("events of 11 since the start", d.events(11), 10);
        due("cycles since the start", d.cycles(), 20);
        d.reset();
        due("events of 0 at the reset", d.events(0), 0);
        due("events of 11 at the reset", d.events(11), 0);
        due("cycles at the reset", d.cycles(), 0);
        setNow(d, 5, 1);
        due("events of 5 since the reset", d.events(5), 1);
        due("events of 0 since the reset", d.events(0), 0);
        due("cycles since the reset", d.cycles(), 1);
        d.reset();
        due("events of 5 at the second reset", d.events(5), 0);
        due("cycles at the second reset", d.cycles(), 0);
        due("step", d.step(), NOTHING);
        due("no cycle", d.cycles(), 0);
    }

    // ---- Promises 8 to 14 ----

    /** Each signal has another value, other events and another change coming, none of them 0. */
    private static DeltaCycles allDifferent() {
        DeltaCycles d = new DeltaCycles();
        for (int signal = 0; signal < 12; signal++) {
            for (int round = 0; round <= signal; round++) {
                setNow(d, signal, 100 + 12 * round + signal);
            }
            d.drive(signal, 500 + signal, 9);
        }
        return d;
    }

    private static void valueOfNoSignal() {
        DeltaCycles d = allDifferent();
        for (int bad : NO_SIGNALS) {
            due("value(" + bad + ")", d.value(bad), 0);
        }
        for (int signal = 0; signal < 12; signal++) {
            due("value(" + signal + ")", d.value(signal), 100 + 13 * signal);
        }
    }

    private static void eventsOfNoSignal() {
        DeltaCycles d = allDifferent();
        for (int bad : NO_SIGNALS) {
            due("events(" + bad + ")", d.events(bad), 0);
        }
        for (int signal = 0; signal < 12; signal++) {
            due("events(" + signal + ")", d.events(signal), signal + 1);
        }
    }

    private static void comingIfThereIsNone() {
        DeltaCycles d = allDifferent();
        for (int bad : NO_SIGNALS) {
            due("coming(" + bad + ")", d.coming(bad), 0);
        }
        for (int signal = 0; signal < 12; signal++) {
            due("coming(" + signal + ")", d.coming(signal), 500 + signal);
        }
        d.step();
        for (int signal = 0; signal < 12; signal++) {
            due("coming(" + signal + ") when it has come", d.coming(signal), 0);
        }
        for (int delay = 0; delay <= 9; delay++) {
            DeltaCycles one = new DeltaCycles();
            one.drive(5, 55, delay);
            due("coming(4)", one.coming(4), 0);
            due("coming(5), delay " + delay, one.coming(5), 55);
            due("coming(6)", one.coming(6), 0);
            one.reset();
            due("coming(5) after reset", one.coming(5), 0);
        }
    }

    private static void theNextCycleComesBeforeAllOthers() {
        for (int first = 0; first <= 8; first++) {
            for (int second = first + 1; second <= 9; second++) {
                DeltaCycles d = new DeltaCycles();
                d.drive(5, 70, first);
                d.drive(5, 60, second);
                due("the first of " + first + " and " + second, d.coming(5), 70);
                d.step();
                due("then the other", d.coming(5), 60);
            }
        }
    }

    private static void theTime() {
        DeltaCycles d = clock(9);
        due("0 at the start", d.time(), 0);
        for (int round = 1; round <= 40; round++) {
            due("the next time is ahead", d.nextTime(), 9 * round);
            d.step();
            due("time", d.time(), 9 * round);
        }
        d.reset();
        due("0 after reset", d.time(), 0);
    }

    private static void howManyArePending() {
        DeltaCycles d = new DeltaCycles();
        due("none", d.pending(), 0);
        for (int delay = 0; delay <= 9; delay++) {
            for (int signal = 0; signal < 12; signal++) {
                d.drive(signal, 1 + delay, delay);
                due("pending", d.pending(), 12 * delay + signal + 1);
            }
        }
        for (int left = 108; left >= 0; left -= 12) {
            d.step();
            due("pending after a step", d.pending(), left);
        }
    }

    private static void nextTimeIsThePresentOne() {
        for (int start = 0; start <= 9; start++) {
            DeltaCycles d = new DeltaCycles();
            d.drive(0, 1, start);
            d.step();
            d.drive(11, 1, 1);
            due("one unit later", d.nextTime(), start + 1);
            d.drive(10, 1, 0);
            due("the present time", d.nextTime(), start);
            d.step();
            due("one unit later again", d.nextTime(), start + 1);
        }
        DeltaCycles far = new DeltaCycles();
        for (int delay = 9; delay >= 1; delay--) {
            far.drive(delay, 1, delay);
            due("the smallest time", far.nextTime(), delay);
        }
    }

    private static void nextTimeIfThereIsNone() {
        for (Start start : STARTS) {
            DeltaCycles d = start.made();
            d.reset();
            due("nextTime after reset of " + start.name, d.nextTime(), NOTHING);
        }
        due("nextTime of an idle object", STARTS.get(1).made().nextTime(), NOTHING);
        for (int signal = 0; signal < 12; signal++) {
            DeltaCycles d = new DeltaCycles();
            due("none", d.nextTime(), NOTHING);
            d.drive(signal, 0, 9);
            due("one", d.nextTime(), 9);
            d.step();
            due("none is left", d.nextTime(), NOTHING);
        }
    }

    // ---- Promise 15 ----

    private static void testsInTheOrderOfTheirNames() {
        for (int full = 0; full <= 1; full++) {
            for (int badDelay = 0; badDelay <= 1; badDelay++) {
                for (int badKind = 0; badKind <= 1; badKind++) {
                    for (int badPlaces = 0; badPlaces < 16; badPlaces++) {
                        int how = how(badKind == 1 ? 6 : 5, badDelay == 1 ? 10 : 9);
                        int signals = 0;
                        for (int place = 0; place < 4; place++) {
                            signals |= (badPlaces >> place & 1) == 1 ? 12 << 4 * place : 11 << 4 * place;
                        }
                        int due = badPlaces != 0 ? BAD_SIGNAL : badKind == 1 ? BAD_KIND
                                : badDelay == 1 ? BAD_DELAY : full == 1 ? FULL : 0;
                        DeltaCycles d = STARTS.get(3 * full).made();
                        due("process(" + how + ", " + signals + ", 0, 1), full " + full,
                                d.process(how, signals, 0, 1), due);
                    }
                }
            }
        }
    }

    private static void otherBit(int how, int signals, int watched) {
        String bits = "other bits " + Integer.toHexString(how) + ", " + Integer.toHexString(signals)
                + ", " + Integer.toHexString(watched);
        alike(bits + ", a process that is taken",
                d -> d.process(how(NOT, 9) | how, signals(11, 11, 11, 11) | signals, 7, 0b100000000101 | watched),
                d -> d.process(how(NOT, 9), signals(11, 11, 11, 11), 7, 0b100000000101));
        alike(bits + ", a process of noughts",
                d -> d.process(how, signals, 0, watched),
                d -> d.process(0, 0, 0, 0));
        refused(bits + ", a bad signal", d -> d.process(how, signals(0, 0, 0, 12) | signals, 0, watched), BAD_SIGNAL);
        refused(bits + ", a bad kind", d -> d.process(how(6, 0) | how, signals, 0, watched), BAD_KIND);
        refused(bits + ", a bad delay", d -> d.process(how(0, 10) | how, signals, 0, watched), BAD_DELAY);
    }

    private static void otherBitsAreNotLookedAt() {
        for (int bit = 0; bit < 32; bit++) {
            if (bit == 3 || bit >= 8) {
                otherBit(1 << bit, 0, 0);
            }
            if (bit >= 16) {
                otherBit(0, 1 << bit, 0);
            }
            if (bit >= 12) {
                otherBit(0, 0, 1 << bit);
            }
        }
        otherBit(~0xF7, ~0xFFFF, ~0xFFF);
    }

    private static void driveTestsTheSignalFirst() {
        for (int signal : NO_SIGNALS) {
            refused("drive(" + signal + ", 1, -1)", d -> d.drive(signal, 1, -1), BAD_SIGNAL);
            refused("drive(" + signal + ", 1, 10)", d -> d.drive(signal, 1, 10), BAD_SIGNAL);
        }
        refused("drive(0, 1, -1)", d -> d.drive(0, 1, -1), BAD_DELAY);
        refused("drive(11, 1, 10)", d -> d.drive(11, 1, 10), BAD_DELAY);
    }

    private static void incWraps() {
        due("MAX and 0", result(INC, 0, MAX, 3, 3), MAX);
        due("MAX and 1", result(INC, 1, MAX, 3, 3), MIN);
        due("MIN and 0", result(INC, 0, MIN, 3, 3), MIN);
        due("MIN and -1", result(INC, -1, MIN, 3, 3), MAX);
        due("1 and MAX", result(INC, MAX, 1, 3, 3), MIN);
        due("MAX and MAX", result(INC, MAX, MAX, 3, 3), -2);
        due("MIN and MIN", result(INC, MIN, MIN, 3, 3), 0);
        due("0 and MIN", result(INC, MIN, 0, 3, 3), MIN);
        due("5 and -7", result(INC, -7, 5, 3, 3), -2);
        due("5 and 65536", result(INC, 65536, 5, 3, 3), 65541);
    }

    // ---- all of them ----

    private static void termsSentences() {
        sentence("What it is", "An object is used for at most 512 calls after it has been made",
                BoundariesTest::theLastOf512Calls);
        sentence("Terms", "There are twelve SIGNALS (0 to 11)", BoundariesTest::twelveSignals);
        sentence("Terms", "each with a VALUE, an int that wraps", BoundariesTest::valuesAreIntsThatWrap);
        sentence("Terms", "up to eight PROCESSES, numbered from 0", BoundariesTest::upToEightProcesses);
        sentence("Terms", "bit by bit", BoundariesTest::andAndXorBitByBit);
        sentence("Terms", "the value of x if that of s is not 0, else that of y", BoundariesTest::muxLooksForZero);
        sentence("Terms", "all bits of x's value turned round", BoundariesTest::notTurnsAllBits);
        sentence("Terms", "A DELAY of 0 means: in the next delta cycle of the same time", BoundariesTest::delayOfZero);
        sentence("Terms", "a delay of 1 to 9: so many time units later", BoundariesTest::delaysOfOneToNine);
        sentence("Terms", "For a signal there may be several pending changes at different times",
                BoundariesTest::severalPendingChanges);
        sentence("Terms", "every pending change of the same signal at the same time or later is taken out first",
                BoundariesTest::sameTimeOrLaterIsTakenOut);
        sentence("Terms", "every pending change of the same signal at the same time or later is taken out first",
                BoundariesTest::theSameTimeFromAnotherTime);
        sentence("Terms", "A change for the next delta cycle takes out all others of its signal.",
                BoundariesTest::nextCycleTakesOutAllOthers);
        sentence("Terms", "One put down for time t leaves those for earlier times, and one for the next delta cycle,"
                + " as they are.", BoundariesTest::earlierOnesAndTheNextCycleAreLeft);
        sentence("Terms", "all signals that have a change for it take their new values at once",
                BoundariesTest::allTakeTheirValuesAtOnce);
        sentence("Terms", "a signal whose value is another one now has an EVENT",
                BoundariesTest::anotherValueIsAnEvent);
        sentence("Terms", "every process that watches a signal with an event is carried out, in the order of their"
                + " numbers, each seeing the new values", BoundariesTest::watchersInOrder);
        sentence("Terms", "if there are changes for the next delta cycle, that is done at the same time",
                BoundariesTest::nextCycleBeforeTimeGoesOn);
        sentence("Terms", "otherwise time goes on to the smallest time of any pending change",
                BoundariesTest::timeGoesOnToTheSmallest);
        sentence("Terms", "all changes for that time make the first delta cycle there",
                BoundariesTest::allChangesOfATimeMakeOneCycle);
        sentence("Terms", "The calls below change nothing.", BoundariesTest::theQuestionsChangeNothing);
    }

    private static void callsSentences() {
        sentence("Promise 1", "All signals 0, no processes, no pending changes, time 0.", BoundariesTest::aNewObject);
        sentence("Promise 2", "x, y, s or the target above 11: BAD_SIGNAL (all four are tested)",
                BoundariesTest::signalsOfAProcessAbove11);
        sentence("Promise 2", "kind above 5: BAD_KIND", BoundariesTest::kindAbove5);
        sentence("Promise 2", "delay above 9: BAD_DELAY", BoundariesTest::delayOfAProcessAbove9);
        sentence("Promise 2", "there are eight: FULL; nothing changes then.", BoundariesTest::thereAreEight);
        sentence("Promise 2", "(bit i for signal i, i 0 to 11)", BoundariesTest::watchedBitsZeroToEleven);
        sentence("Promise 2", "It is not carried out by this.", BoundariesTest::notCarriedOutWhenAdded);
        sentence("Promise 2", "Else answers its number.", BoundariesTest::processAnswersItsNumber);
        sentence("Promise 3", "signal not in 0 to 11: BAD_SIGNAL", BoundariesTest::driveOfNoSignal);
        sentence("Promise 3", "delay not in 0 to 9: BAD_DELAY; nothing changes then.",
                BoundariesTest::driveWithNoDelay);
        sentence("Promise 3", "with a delay 0 to 9, as a process would.", BoundariesTest::driveIsAsAProcessWould);
        sentence("Promise 3", "Else answers how many changes are pending.",
                BoundariesTest::driveAnswersHowManyArePending);
        sentence("Promise 4", "Carries one process out now, outside any cycle.", BoundariesTest::pokeIsOutsideAnyCycle);
        sentence("Promise 4", "There is no such process: BAD_KIND, nothing changes.", BoundariesTest::pokeOfNoProcess);
        sentence("Promise 4", "Else answers how many changes are pending.",
                BoundariesTest::pokeAnswersHowManyArePending);
        sentence("Promise 5", "Does one delta cycle, advancing time before it if need be.",
                BoundariesTest::stepAdvancesIfNeedBe);
        sentence("Promise 5", "No change is pending: NOTHING, nothing changes.",
                BoundariesTest::stepWithNothingPending);
        sentence("Promise 5", "Else answers how many signals had an event.",
                BoundariesTest::stepAnswersHowManyHadAnEvent);
        sentence("Promise 6", "at most n (n below 0 counts as 0, above 200 as 200)", BoundariesTest::runOfAtMostN);
        sentence("Promise 6", "each only if nextTime is at most the time at the call plus units",
                BoundariesTest::runOnlyUpToTheLastTime);
        sentence("Promise 6", "units below 0 counts as 0, above 1000 as 1000", BoundariesTest::runOfUnits);
        sentence("Promise 6", "Answers how many were done.", BoundariesTest::runAnswersHowManyWereDone);
        sentence("Promise 7", "All signals 0, nothing pending, time 0; processes stay.",
                BoundariesTest::resetButProcessesStay);
    }

    private static void questionsSentences() {
        sentence("Promise 8", "A signal's value; 0 if there is no such signal.", BoundariesTest::valueOfNoSignal);
        sentence("Promise 9", "The time.", BoundariesTest::theTime);
        sentence("Promise 10", "How many changes are pending.", BoundariesTest::howManyArePending);
        sentence("Promise 11", "(the present time if one is for the next delta cycle)",
                BoundariesTest::nextTimeIsThePresentOne);
        sentence("Promise 11", "NOTHING if there is none.", BoundariesTest::nextTimeIfThereIsNone);
        sentence("Promise 12", "0 if there is no such signal.", BoundariesTest::eventsOfNoSignal);
        sentence("Promises 12 and 13", "since the start or the last reset",
                BoundariesTest::sinceTheStartOrTheLastReset);
        sentence("Promise 14", "(one for the next delta cycle comes before all others)",
                BoundariesTest::theNextCycleComesBeforeAllOthers);
        sentence("Promise 14", "0 if there is none.", BoundariesTest::comingIfThereIsNone);
    }

    private static void orderAndLimitsSentences() {
        sentence("Promise 15", "the tests are made in the order in which they are named",
                BoundariesTest::testsInTheOrderOfTheirNames);
        sentence("Promise 15", "other bits of how, signals and watched are not looked at",
                BoundariesTest::otherBitsAreNotLookedAt);
        sentence("Promise 15", "BAD_SIGNAL is tested before BAD_DELAY", BoundariesTest::driveTestsTheSignalFirst);
        sentence("Promise 15", "INC works out the sum of the value of x and c (wrapping).", BoundariesTest::incWraps);
    }

    public static void main(String[] args) {
        termsSentences();
        callsSentences();
        questionsSentences();
        orderAndLimitsSentences();
        System.out.println(wrong == 0 ? sentences + " sentences hold" : wrong + " answers are not as due");
        if (wrong != 0) {
            System.exit(1);
        }
    }
}
