/** What the tests share: they count what is not as due, and end with exit code 1 if there was anything. */
class Check {
    private static int wrong = 0;
    private static int looked = 0;
    private static String place = "";

    interface Call {
        long answer();
    }

    /** What is told from now on is told with these words ahead. */
    static void about(String words) {
        place = words;
    }

    static int looks() {
        return looked;
    }

    static void same(String what, long want, long got) {
        looked++;
        if (want != got) {
            tell(what + " answered " + got + ", due is " + want);
        }
    }

    static void isTrue(String what, boolean holds) {
        looked++;
        if (!holds) {
            tell(what + " does not hold");
        }
    }

    /** The call throws exactly this exception, and changes nothing. */
    static void refused(String what, BusyChip chip, Class<? extends RuntimeException> want, Call call) {
        looked++;
        long before = chip.digest();
        try {
            long got = call.answer();
            tell(what + " answered " + got + ", due is " + want.getSimpleName());
        } catch (RuntimeException e) {
            if (e.getClass() != want) {
                tell(what + " threw " + e.getClass().getSimpleName() + ", due is " + want.getSimpleName());
            }
            byHand(what, e);
        }
        if (chip.digest() != before) {
            tell(what + " changed something, though it was refused");
        }
    }

    static void argument(String what, BusyChip chip, Call call) {
        refused(what, chip, IllegalArgumentException.class, call);
    }

    static void index(String what, BusyChip chip, Call call) {
        refused(what, chip, IndexOutOfBoundsException.class, call);
    }

    static void state(String what, BusyChip chip, Call call) {
        refused(what, chip, IllegalStateException.class, call);
    }

    /** The exception comes from a throw statement of the class, not from the machine or the library. */
    static void byHand(String what, RuntimeException e) {
        StackTraceElement[] trace = e.getStackTrace();
        if (trace.length == 0 || !trace[0].getClassName().equals("BusyChip")) {
            tell(what + " threw from outside of the class");
        }
    }

    /** The call is undoable: it saves a state, and undo() brings all back. */
    static void undoable(String what, BusyChip chip, Call call) {
        int saved = Math.min(chip.count(15), 5);
        long before = stateOf(chip);
        call.answer();
        same(what + ": saved states behind it", saved + 1, chip.count(15));
        same(what + ": undo()", saved, chip.undo());
        same(what + ": the state behind undo()", before, stateOf(chip));
    }

    /** A hash of all that undo() restores. */
    static long stateOf(BusyChip chip) {
        long hash = 1;
        for (int what = 0; what < 15; what++) {
            hash = 31 * hash + chip.count(what);
        }
        for (int i = 0; i < 5; i++) {
            hash = 31 * hash + chip.setting(i);
            hash = 31 * hash + chip.work(0, i);
            hash = 31 * hash + chip.work(1, i);
        }
        for (int i = 0; i < 256; i++) {
            for (int what = 0; what < 4; what++) {
                hash = 31 * hash + chip.cell(i, what);
            }
            hash = 31 * hash + chip.sector(i / 32, i % 7);
        }
        for (int i = 0; i < 6 * chip.count(10); i++) {
            hash = 31 * hash + chip.order(i / 6, i % 6);
        }
        return 31 * hash + chip.freeIn();
    }

    static void tell(String text) {
        wrong++;
        if (wrong <= 40) {
            System.out.println(place + text);
        }
    }

    static void end(String name) {
        System.out.println(name + ": " + looked + " looks, " + wrong + " not as due");
        if (wrong != 0) {
            System.exit(1);
        }
    }

    static void load(BusyChip chip, int... values) {
        for (int value : values) {
            chip.load(value);
        }
    }

    static void text(BusyChip chip, String text) {
        for (int i = 0; i < text.length(); i++) {
            chip.append(text.charAt(i));
        }
    }

    static void pass(BusyChip chip, int ticks) {
        for (int left = ticks; left > 0; left -= 200) {
            chip.pass(Math.min(left, 200));
        }
    }

    /** Begins an erase by hand and lets it end. */
    static void eraseWholly(BusyChip chip, int sector) {
        chip.arm();
        pass(chip, chip.erase(sector));
    }

    /** Begins a write by hand and lets it end. */
    static void writeWholly(BusyChip chip, int cell, int... values) {
        load(chip, values);
        chip.arm();
        pass(chip, chip.write(cell));
    }

    static void lockWholly(BusyChip chip, int level, int side) {
        chip.arm();
        pass(chip, chip.lock(level, side));
    }
}
