/** Each promise of the document by itself: ordinary inputs, the edges it names, wrong inputs. */
public final class PromisesTest {
    private static final int SUM = 0, AND = 1, XOR = 2, INC = 3, MUX = 4, NOT = 5;

    private static int wrong = 0;

    private static void due(String what, int got, int want) {
        if (got != want) {
            wrong++;
            System.out.println(what + " answered " + got + ", due is " + want);
        }
    }

    private static int how(int kind, int delay) {
        return kind | delay << 4;
    }

    private static int signals(int x, int y, int s, int target) {
        return x | y << 4 | s << 8 | target << 12;
    }

    /** What the calls that change nothing answer, as one text, to compare two states. */
    private static String state(DeltaCycles d) {
        StringBuilder text = new StringBuilder();
        text.append(d.time()).append(' ').append(d.pending()).append(' ').append(d.nextTime());
        text.append(' ').append(d.cycles());
        for (int signal = -1; signal <= 12; signal++) {
            text.append(" | ").append(d.value(signal)).append(' ').append(d.events(signal));
            text.append(' ').append(d.coming(signal));
        }
        return text.toString();
    }

    private static void same(String what, String got, String want) {
        if (!got.equals(want)) {
            wrong++;
            System.out.println(what + " changed the state:\n  was " + want + "\n  is  " + got);
        }
    }

    private static void setNow(DeltaCycles d, int signal, int value) {
        d.drive(signal, value, 0);
        d.step();
    }

    /** An object with values, events and changes at several times, and one process. */
    private static DeltaCycles busy() {
        DeltaCycles d = new DeltaCycles();
        d.process(how(INC, 2), signals(0, 0, 0, 1), 5, 1);
        d.drive(0, 7, 3);
        d.step();
        d.drive(4, 40, 0);
        d.drive(4, 41, 6);
        d.drive(5, 50, 9);
        return d;
    }

    private static void constants() {
        due("BAD_SIGNAL", DeltaCycles.BAD_SIGNAL, -1);
        due("BAD_KIND", DeltaCycles.BAD_KIND, -2);
        due("BAD_DELAY", DeltaCycles.BAD_DELAY, -3);
        due("FULL", DeltaCycles.FULL, -4);
        due("NOTHING", DeltaCycles.NOTHING, -5);
    }

    private static void promise1NewObject() {
        DeltaCycles d = new DeltaCycles();
        for (int signal = 0; signal < 12; signal++) {
            due("1: value of new object", d.value(signal), 0);
            due("1: events of new object", d.events(signal), 0);
            due("1: coming of new object", d.coming(signal), 0);
        }
        due("1: time", d.time(), 0);
        due("1: pending", d.pending(), 0);
        due("1: nextTime", d.nextTime(), -5);
        due("1: cycles", d.cycles(), 0);
        due("1: there is no process 0", d.poke(0), -2);
        due("1: the first process", d.process(0, 0, 0, 0), 0);
        setNow(d, 3, 9);
        due("1: objects share nothing", new DeltaCycles().value(3), 0);
    }

    private static void promise2Numbers() {
        DeltaCycles d = new DeltaCycles();
        for (int number = 0; number < 8; number++) {
            due("2: number", d.process(how(INC, 0), signals(0, 0, 0, number), 100 + number, 1), number);
        }
        due("2: a ninth", d.process(how(INC, 0), signals(0, 0, 0, 11), 1, 1), -4);
        due("2: a tenth", d.process(how(INC, 0), signals(0, 0, 0, 11), 1, 1), -4);
        due("2: no process is carried out when added", d.pending(), 0);
        due("2: the ninth is not there", d.poke(8), -2);
        due("2: the eighth is", d.poke(7), 1);
        due("2: the eighth is as it was", d.coming(7), 107);
        d.reset();
        due("2: reset frees no place", d.process(0, 0, 0, 0), -4);
    }

    private static void promise2WrongInputs() {
        DeltaCycles d = busy();
        String before = state(d);
        for (int bad = 12; bad <= 15; bad++) {
            for (int kind = 0; kind <= 5; kind++) {
                due("2: x too great", d.process(kind, signals(bad, 0, 0, 0), 0, 1), -1);
                due("2: y too great", d.process(kind, signals(0, bad, 0, 0), 0, 1), -1);
                due("2: s too great", d.process(kind, signals(0, 0, bad, 0), 0, 1), -1);
                due("2: target too great", d.process(kind, signals(0, 0, 0, bad), 0, 1), -1);
            }
        }
        due("2: kind 6", d.process(how(6, 0), 0, 0, 1), -2);
        due("2: kind 7", d.process(how(7, 0), 0, 0, 1), -2);
        for (int delay = 10; delay <= 15; delay++) {
            due("2: delay too great", d.process(how(SUM, delay), 0, 0, 1), -3);
        }
        same("2: a refused process", state(d), before);
        due("2: no process was added", d.poke(1), -2);
        due("2: the next number", d.process(how(NOT, 9), signals(11, 11, 11, 11), 0, 0), 1);
    }

    private static void promise2Watching() {
        for (int watched = 0; watched < 12; watched++) {
            DeltaCycles d = new DeltaCycles();
            d.process(how(NOT, 1), signals(0, 0, 0, 0), 0, 1 << watched);
            for (int signal = 0; signal < 12; signal++) {
                d.reset();
                setNow(d, signal, 3);
                due("2: watches " + watched + ", event on " + signal, d.pending(), signal == watched ? 1 : 0);
            }
        }
        DeltaCycles none = new DeltaCycles();
        none.process(how(NOT, 1), 0, 0, 0);
        setNow(none, 0, 1);
        due("2: watches its x only if asked to", none.pending(), 0);
    }

    private static void result(String what, int kind, int c, int x, int y, int s, int want) {
        for (int delay = 0; delay <= 9; delay++) {
            DeltaCycles d = new DeltaCycles();
            setNow(d, 9, x);
            setNow(d, 10, y);
            setNow(d, 11, s);
            due("2: number", d.process(how(kind, delay), signals(9, 10, 11, 8), c, 0), 0);
            due("2: poke", d.poke(0), 1);
            due("2: " + what, d.coming(8), want);
            due("2: delay of " + what, d.nextTime(), delay);
            d.step();
            due("2: target of " + what, d.value(8), want);
        }
    }

    private static void promise2Kinds() {
        result("SUM", SUM, 99, 5, 7, 1, 12);
        result("SUM wraps", SUM, 99, Integer.MAX_VALUE, 2, 1, Integer.MIN_VALUE + 1);
        result("AND", AND, 99, 0b1100, 0b1010, 1, 0b1000);
        result("AND of negatives", AND, 99, -2, -3, 1, -4);
        result("XOR", XOR, 99, 0b1100, 0b1010, 1, 0b0110);
        result("XOR of negatives", XOR, 99, -1, 5, 1, -6);
        result("INC", INC, -30, 5, 7, 1, -25);
        result("MUX, s is 1", MUX, 99, 5, 7, 1, 5);
        result("MUX, s is negative", MUX, 99, 5, 7, Integer.MIN_VALUE, 5);
        result("MUX, s is even", MUX, 99, 5, 7, 2, 5);
        result("MUX, s is 0", MUX, 99, 5, 7, 0, 7);
        result("NOT", NOT, 99, 5, 7, 1, -6);
        result("NOT of 0", NOT, 99, 0, 7, 1, -1);
    }

    private static void promise3WrongInputs() {
        DeltaCycles d = busy();
        String before = state(d);
        int[] badSignals = {-1, 12, 15, 16, Integer.MIN_VALUE, Integer.MAX_VALUE};
        for (int bad : badSignals) {
            due("3: drive signal " + bad, d.drive(bad, 1, 0), -1);
        }
        int[] badDelays = {-1, 10, 16, Integer.MIN_VALUE, Integer.MAX_VALUE};
        for (int bad : badDelays) {
            due("3: drive with delay " + bad, d.drive(0, 1, bad), -3);
            due("3: drive with delay " + bad, d.drive(11, 1, bad), -3);
        }
        same("3: a refused drive", state(d), before);
    }

    private static void promise3Drive() {
        DeltaCycles d = new DeltaCycles();
        for (int signal = 0; signal < 12; signal++) {
            due("3: drive", d.drive(signal, 100 + signal, signal % 10), signal + 1);
        }
        for (int signal = 0; signal < 12; signal++) {
            due("3: no value changes at once", d.value(signal), 0);
            due("3: coming", d.coming(signal), 100 + signal);
        }
        due("3: run", d.run(9, 200), 10);
        for (int signal = 0; signal < 12; signal++) {
            due("3: value", d.value(signal), 100 + signal);
        }
        due("3: the same value is put down too", d.drive(0, 100, 4), 1);
    }

    private static void promise3MostChanges() {
        DeltaCycles d = new DeltaCycles();
        int count = 0;
        for (int delay = 0; delay <= 9; delay++) {
            for (int signal = 0; signal < 12; signal++) {
                count++;
                due("3: all delays of all signals", d.drive(signal, 20 * signal + delay + 1, delay), count);
            }
        }
        for (int delay = 0; delay <= 9; delay++) {
            due("3: all come", d.step(), 12);
            due("3: in time", d.time(), delay);
            due("3: value", d.value(11), 220 + delay + 1);
        }
        due("3: none is left", d.pending(), 0);
    }

    private static void termsTakingOut() {
        DeltaCycles d = new DeltaCycles();
        due("taking out: 2", d.drive(6, 2, 2), 1);
        due("taking out: 5", d.drive(6, 5, 5), 2);
        due("taking out: 9", d.drive(6, 9, 9), 3);
        due("taking out: another signal", d.drive(7, 7, 9), 4);
        due("taking out: 5 takes 5 and 9", d.drive(6, 55, 5), 3);
        due("taking out: 4 takes 5", d.drive(6, 4, 4), 3);
        due("taking out: 2 is still first", d.coming(6), 2);
        due("taking out: 0 takes all of its signal", d.drive(6, 60, 0), 2);
        due("taking out: 0 takes 0", d.drive(6, 61, 0), 2);
        due("taking out: 1 leaves 0", d.drive(6, 1, 1), 3);
        due("taking out: 0 is first", d.coming(6), 61);
        due("taking out: step", d.step(), 1);
        due("taking out: value", d.value(6), 61);
        due("taking out: at the same time", d.time(), 0);
        due("taking out: step", d.step(), 1);
        due("taking out: value", d.value(6), 1);
        due("taking out: a later call, the same time", d.drive(7, 70, 8), 1);
        due("taking out: it is the new one", d.coming(7), 70);
        due("taking out: time", d.nextTime(), 9);
    }

    private static void promise4Poke() {
        DeltaCycles d = new DeltaCycles();
        due("4: no process", d.poke(0), -2);
        d.process(how(INC, 3), signals(0, 0, 0, 1), 5, 0);
        d.process(how(INC, 0), signals(0, 0, 0, 2), 6, 0);
        String before = state(d);
        int[] bad = {-1, 2, 7, 8, Integer.MIN_VALUE, Integer.MAX_VALUE};
        for (int process : bad) {
            due("4: poke(" + process + ")", d.poke(process), -2);
        }
        same("4: a refused poke", state(d), before);
        due("4: poke", d.poke(0), 1);
        due("4: poke again", d.poke(0), 1);
        due("4: poke another", d.poke(1), 2);
        due("4: coming", d.coming(1), 5);
        due("4: coming", d.coming(2), 6);
        due("4: no cycle", d.cycles(), 0);
        due("4: no time", d.time(), 0);
        due("4: no value", d.value(2), 0);
        due("4: no event", d.events(2), 0);
        d.drive(0, 10, 0);
        d.poke(1);
        due("4: it sees values, not what is coming", d.coming(2), 6);
        due("4: step", d.step(), 2);
        d.poke(0);
        due("4: the present value", d.run(9, 9), 1);
        due("4: value", d.value(1), 15);
    }

    private static void promise5Step() {
        DeltaCycles d = new DeltaCycles();
        String fresh = state(d);
        due("5: nothing pending", d.step(), -5);
        same("5: step with nothing pending", state(d), fresh);
        d.drive(0, 1, 0);
        d.drive(1, 0, 0);
        d.drive(2, 3, 0);
        d.drive(3, 4, 7);
        due("5: an equal value is no event", d.step(), 2);
        due("5: same time", d.time(), 0);
        due("5: one cycle alone", d.pending(), 1);
        due("5: time goes on", d.step(), 1);
        due("5: time", d.time(), 7);
        due("5: value", d.value(3), 4);
        d.drive(3, 4, 2);
        due("5: a cycle without event", d.step(), 0);
        due("5: is a cycle", d.cycles(), 3);
        due("5: time", d.time(), 9);
        due("5: nothing is left", d.step(), -5);
        due("5: time stays", d.time(), 9);
        due("5: cycles stay", d.cycles(), 3);
    }

    private static void termsDeltaCycle() {
        DeltaCycles swap = new DeltaCycles();
        swap.process(how(INC, 0), signals(0, 0, 0, 1), 0, 0b11);
        swap.process(how(INC, 0), signals(1, 0, 0, 0), 0, 0b11);
        swap.drive(0, 10, 0);
        swap.drive(1, 20, 0);
        due("cycle: both at once", swap.step(), 2);
        due("cycle: processes change no value in the same cycle", swap.value(0), 10);
        due("cycle: swap", swap.step(), 2);
        due("cycle: value of 0", swap.value(0), 20);
        due("cycle: value of 1", swap.value(1), 10);
        due("cycle: time", swap.time(), 0);

        DeltaCycles order = new DeltaCycles();
        order.process(how(INC, 0), signals(0, 0, 0, 5), 1, 1);
        order.process(how(INC, 0), signals(0, 0, 0, 5), 2, 1);
        order.process(how(INC, 4), signals(0, 0, 0, 6), 3, 1);
        order.process(how(INC, 2), signals(0, 0, 0, 6), 4, 1);
        order.process(how(INC, 2), signals(0, 0, 0, 7), 5, 1);
        order.process(how(INC, 4), signals(0, 0, 0, 7), 6, 1);
        order.drive(0, 100, 1);
        due("order: step", order.step(), 1);
        due("order: pending", order.pending(), 4);
        due("order: the later process counts", order.coming(5), 102);
        due("order: the earlier time takes out", order.coming(6), 104);
        due("order: the earlier time stays", order.coming(7), 105);
        due("order: first the delta cycle", order.nextTime(), 1);
        due("order: run", order.run(9, 9), 3);
        due("order: value 5", order.value(5), 102);
        due("order: value 6", order.value(6), 104);
        due("order: value 7", order.value(7), 106);
        due("order: time", order.time(), 5);

        DeltaCycles once = new DeltaCycles();
        once.process(how(SUM, 0), signals(0, 1, 0, 0), 0, 0b110);
        once.drive(1, 3, 0);
        once.drive(2, 3, 0);
        once.step();
        due("once: carried out once for two events", once.coming(0), 3);
        once.drive(1, 3, 1);
        once.step();
        due("once: before the time goes on the delta cycle is done", once.time(), 0);
        once.step();
        due("once: a change without event wakes nothing", once.pending(), 0);

        DeltaCycles taken = new DeltaCycles();
        taken.process(how(NOT, 0), signals(0, 0, 0, 1), 0, 1);
        taken.drive(0, 1, 2);
        taken.drive(1, 9, 2);
        taken.drive(1, 10, 3);
        due("taken: both of time 2", taken.step(), 2);
        due("taken: the process takes the one of time 3 out", taken.pending(), 1);
        due("taken: value from outside", taken.value(1), 9);
        due("taken: value from the process is coming", taken.coming(1), -2);
    }

    private static void promise6Run() {
        DeltaCycles d = new DeltaCycles();
        due("6: nothing pending", d.run(1000, 200), 0);
        due("6: time stays", d.time(), 0);
        d.drive(0, 1, 3);
        d.drive(1, 1, 5);
        d.drive(2, 1, 9);
        due("6: too early", d.run(2, 200), 0);
        due("6: time does not go on by itself", d.time(), 0);
        due("6: units below 0", d.run(-1, 200), 0);
        due("6: units far below 0", d.run(Integer.MIN_VALUE, 200), 0);
        due("6: n is 0", d.run(1000, 0), 0);
        due("6: n below 0", d.run(1000, -1), 0);
        due("6: n far below 0", d.run(1000, Integer.MIN_VALUE), 0);
        due("6: just in time", d.run(3, 200), 1);
        due("6: time", d.time(), 3);
        due("6: units count from the time at the call", d.run(5, 200), 1);
        due("6: time", d.time(), 5);
        d.drive(3, 1, 0);
        due("6: units below 0 are 0: the present time is in", d.run(-7, 200), 1);
        d.drive(3, 2, 0);
        due("6: units of -1 are 0 too", d.run(-1, 200), 1);
        due("6: the greatest arguments", d.run(Integer.MAX_VALUE, Integer.MAX_VALUE), 1);
        due("6: time", d.time(), 9);
        due("6: cycles", d.cycles(), 5);

        DeltaCycles units = new DeltaCycles();
        for (int delay = 1; delay <= 9; delay++) {
            units.drive(0, delay, delay);
        }
        due("6: units are not counted anew for each cycle", units.run(4, 200), 4);
        due("6: time", units.time(), 4);
        due("6: at most n", units.run(4, 3), 3);
        due("6: time", units.time(), 7);
    }

    private static DeltaCycles clock(int delay) {
        DeltaCycles d = new DeltaCycles();
        d.process(how(NOT, delay), signals(0, 0, 0, 0), 0, 1);
        d.poke(0);
        return d;
    }

    private static void promise6Bounds() {
        DeltaCycles fast = clock(0);
        due("6: n 199", fast.run(0, 199), 199);
        due("6: n 200", fast.run(0, 200), 200);
        due("6: n above 200", fast.run(0, 201), 200);
        due("6: n far above 200", fast.run(0, Integer.MAX_VALUE), 200);
        due("6: time stands", fast.time(), 0);
        due("6: cycles", fast.cycles(), 799);
        due("6: events", fast.events(0), 799);
        due("6: value", fast.value(0), -1);
        DeltaCycles even = clock(9);
        due("6: units 999", even.run(999, 200), 111);
        due("6: time", even.time(), 999);
        DeltaCycles a = clock(8);
        due("6: units 1000", a.run(1000, 200), 125);
        due("6: time", a.time(), 1000);
        DeltaCycles b = clock(7);
        due("6: units above 1000", b.run(1001, 200), 142);
        due("6: time", b.time(), 994);
        DeltaCycles c = clock(7);
        due("6: units far above 1000", c.run(Integer.MAX_VALUE, 200), 142);
        due("6: once more", c.run(Integer.MAX_VALUE, 200), 142);
        due("6: time", c.time(), 1988);
    }

    private static void promise7Reset() {
        DeltaCycles d = busy();
        String fresh = state(new DeltaCycles());
        d.reset();
        same("7: reset", state(d), fresh);
        due("7: step", d.step(), -5);
        due("7: processes stay", d.poke(0), 1);
        due("7: as they were", d.coming(1), 5);
        due("7: with their delay", d.nextTime(), 2);
        d.reset();
        d.reset();
        same("7: reset twice", state(d), fresh);
        setNow(d, 0, 3);
        due("7: they still watch", d.coming(1), 8);
        due("7: the next number", d.process(0, 0, 0, 0), 1);
        DeltaCycles all = new DeltaCycles();
        for (int delay = 0; delay <= 9; delay++) {
            for (int signal = 0; signal < 12; signal++) {
                all.drive(signal, 1, delay);
            }
        }
        all.run(4, 200);
        all.reset();
        same("7: reset of everything", state(all), fresh);
    }

    private static void promises8To14WrongSignals() {
        DeltaCycles d = new DeltaCycles();
        for (int signal = 0; signal < 12; signal++) {
            d.drive(signal, 7, 0);
        }
        d.step();
        for (int signal = 0; signal < 12; signal++) {
            d.drive(signal, 8, 0);
        }
        int[] bad = {-1, 12, 13, 16, Integer.MIN_VALUE, Integer.MAX_VALUE};
        for (int signal : bad) {
            due("8: value(" + signal + ")", d.value(signal), 0);
            due("12: events(" + signal + ")", d.events(signal), 0);
            due("14: coming(" + signal + ")", d.coming(signal), 0);
        }
        due("8: value", d.value(11), 7);
        due("12: events", d.events(11), 1);
        due("14: coming", d.coming(11), 8);
    }

    private static void promise8Value() {
        DeltaCycles d = new DeltaCycles();
        setNow(d, 0, Integer.MIN_VALUE);
        setNow(d, 11, Integer.MAX_VALUE);
        due("8: least value", d.value(0), Integer.MIN_VALUE);
        due("8: greatest value", d.value(11), Integer.MAX_VALUE);
        due("8: another signal", d.value(5), 0);
    }

    private static void promise9Time() {
        DeltaCycles d = new DeltaCycles();
        for (int round = 1; round <= 20; round++) {
            d.drive(0, round, 9);
            due("9: time before", d.time(), 9 * round - 9);
            d.step();
            due("9: time after", d.time(), 9 * round);
        }
    }

    private static void promises10And11() {
        DeltaCycles d = new DeltaCycles();
        due("11: none", d.nextTime(), -5);
        d.drive(3, 1, 9);
        due("11: nine", d.nextTime(), 9);
        d.drive(4, 1, 6);
        due("11: six", d.nextTime(), 6);
        d.step();
        due("10: one is left", d.pending(), 1);
        due("11: from the start, not from now", d.nextTime(), 9);
        d.drive(5, 1, 9);
        due("11: still nine", d.nextTime(), 9);
        d.drive(6, 1, 0);
        due("11: the present time", d.nextTime(), 6);
        due("10: three", d.pending(), 3);
        d.run(1000, 200);
        due("10: none", d.pending(), 0);
        due("11: none", d.nextTime(), -5);
    }

    private static void promises12And13() {
        DeltaCycles d = new DeltaCycles();
        d.drive(2, 5, 1);
        d.drive(2, 5, 2);
        d.drive(2, 6, 3);
        d.drive(2, 5, 4);
        d.drive(3, 5, 4);
        due("13: run", d.run(9, 200), 4);
        due("12: a change to the same value is no event", d.events(2), 3);
        due("12: another signal", d.events(3), 1);
        due("12: a signal without change", d.events(4), 0);
        due("13: cycles", d.cycles(), 4);
        d.step();
        due("13: no cycle if nothing is pending", d.cycles(), 4);
        d.reset();
        due("12: after reset", d.events(2), 0);
        due("13: after reset", d.cycles(), 0);
        setNow(d, 2, 0);
        due("12: reset made the value 0", d.events(2), 0);
        setNow(d, 2, 5);
        due("12: counts again", d.events(2), 1);
        due("13: counts again", d.cycles(), 2);
    }

    private static void promise14Coming() {
        DeltaCycles d = new DeltaCycles();
        d.drive(8, 40, 4);
        due("14: the only one", d.coming(8), 40);
        d.drive(8, 90, 9);
        due("14: the first, not the newest", d.coming(8), 40);
        d.drive(8, 1, 0);
        d.drive(8, 30, 3);
        due("14: the next delta cycle before all others", d.coming(8), 1);
        d.step();
        due("14: then the timed one", d.coming(8), 30);
        d.drive(8, 0, 1);
        due("14: a change to 0", d.coming(8), 0);
        due("14: another signal", d.coming(7), 0);
        d.step();
        due("14: none is left", d.coming(8), 0);
    }

    private static void questionsChangeNothing() {
        DeltaCycles d = busy();
        String before = state(d);
        same("8 to 14: the questions", state(d), before);
        due("the next step is as it would be", d.step(), 1);
        due("value", d.value(4), 40);
    }

    private static void promise15OrderOfTests() {
        DeltaCycles d = new DeltaCycles();
        due("15: signal before kind and delay", d.process(how(7, 15), signals(0, 0, 0, 12), 0, 0), -1);
        due("15: kind before delay", d.process(how(6, 10), 0, 0, 0), -2);
        for (int number = 0; number < 8; number++) {
            d.process(0, 0, 0, 0);
        }
        due("15: signal before full", d.process(0, signals(0, 0, 12, 0), 0, 0), -1);
        due("15: kind before full", d.process(how(6, 0), 0, 0, 0), -2);
        due("15: delay before full", d.process(how(0, 10), 0, 0, 0), -3);
        due("15: full", d.process(0, 0, 0, 0), -4);
        due("15: drive, signal before delay", d.drive(12, 0, 10), -1);
        due("15: drive, signal before delay", d.drive(-1, 0, -1), -1);
    }

    private static void promise15OtherBits() {
        DeltaCycles d = new DeltaCycles();
        due("15: bits of how", d.process(how(INC, 2) | ~0xF7, signals(0, 1, 2, 3), 5, 1), 0);
        due("15: bits of signals", d.process(how(MUX, 1), signals(0, 1, 2, 4) | 0xFFFF0000, 5, 1), 1);
        due("15: bits of watched", d.process(how(NOT, 1), signals(0, 1, 2, 5), 5, ~0xFFF), 2);
        due("15: bits of watched", d.process(how(NOT, 3), signals(0, 1, 2, 6), 5, ~0xFFF | 1), 3);
        due("15: bit 3 of how", d.process(how(NOT, 0) | 8, signals(0, 1, 2, 7), 0, 0), 4);
        setNow(d, 0, 40);
        due("15: three watch signal 0", d.pending(), 3);
        due("15: INC", d.coming(3), 45);
        due("15: MUX", d.coming(4), 0);
        due("15: not watching", d.coming(5), 0);
        due("15: watching", d.coming(6), ~40);
        for (int signal = 1; signal < 12; signal++) {
            d.reset();
            setNow(d, signal, 1);
            due("15: none watches signal " + signal, d.pending(), 0);
        }
        d.reset();
        d.poke(0);
        due("15: delay of INC", d.nextTime(), 2);
        d.poke(4);
        due("15: delay of NOT", d.nextTime(), 0);
        due("15: kind NOT", d.coming(7), -1);
    }

    private static void promise15IncWraps() {
        result("INC wraps upwards", INC, 1, Integer.MAX_VALUE, 0, 0, Integer.MIN_VALUE);
        result("INC wraps downwards", INC, -1, Integer.MIN_VALUE, 0, 0, Integer.MAX_VALUE);
        result("INC by the least number", INC, Integer.MIN_VALUE, Integer.MIN_VALUE, 0, 0, 0);
        result("INC by the greatest number", INC, Integer.MAX_VALUE, Integer.MAX_VALUE, 0, 0, -2);
    }

    public static void main(String[] args) {
        constants();
        promise1NewObject();
        promise2Numbers();
        promise2WrongInputs();
        promise2Watching();
        promise2Kinds();
        promise3WrongInputs();
        promise3Drive();
        promise3MostChanges();
        termsTakingOut();
        promise4Poke();
        promise5Step();
        termsDeltaCycle();
        promise6Run();
        promise6Bounds();
        promise7Reset();
        promises8To14WrongSignals();
        promise8Value();
        promise9Time();
        promises10And11();
        promises12And13();
        promise14Coming();
        questionsChangeNothing();
        promise15OrderOfTests();
        promise15OtherBits();
        promise15IncWraps();
        System.out.println(wrong == 0 ? "all answers are as due" : wrong + " answers are not as due");
        if (wrong != 0) {
            System.exit(1);
        }
    }
}
