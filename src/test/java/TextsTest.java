/** Promises 16 to 22: orders as texts, the snapshot, undo. */
public final class TextsTest {
    public static void main(String[] args) {
        append();
        clearBuffer();
        firstError();
        completeTexts();
        obey();
        obeyRefusedParts();
        keep();
        goBack();
        undo();
        undoBringsAllBack();
        Check.end("TextsTest");
    }

    private static BusyChip with(String text) {
        BusyChip chip = new BusyChip();
        Check.text(chip, text);
        return chip;
    }

    private static void append() {
        BusyChip chip = new BusyChip();
        Check.argument("16: append(32)", chip, () -> chip.append(32));
        Check.argument("16: append(127)", chip, () -> chip.append(127));
        Check.argument("16: append(-1)", chip, () -> chip.append(-1));
        Check.argument("16: append(65536 + 't')", chip, () -> chip.append(65536 + 't'));
        long before = chip.digest();
        for (int i = 1; i <= 60; i++) {
            Check.same("16: append", i, chip.append(i % 2 == 0 ? 33 : 126));
        }
        Check.isTrue("16: it is in the digest", before != chip.digest());
        Check.same("16: it saves no state", 0, chip.count(15));
        Check.state("16: the 61st", chip, () -> chip.append('t'));
        Check.argument("16: the code is looked at first", chip, () -> chip.append(32));
    }

    private static void clearBuffer() {
        BusyChip chip = new BusyChip();
        Check.same("17: an empty one", 0, chip.clearBuffer());
        long before = chip.digest();
        Check.text(chip, "t1;");
        Check.same("17: its length", 3, chip.clearBuffer());
        Check.same("17: cleared", before, chip.digest());
        Check.same("17: it saves no state", 0, chip.count(15));
        Check.same("17: the next character", 1, chip.append('t'));
    }

    private static void firstError() {
        Check.same("18: an empty buffer", 0, with("").firstError());
        String[] errors = {
            "x", "W", ";", "1", "!", ":",
            "w:", "wa", "w;", "w!", "w00", "w01", "w256", "w260", "w300", "w1000", "w2;", "w2!", "w2a", "w0::",
            "w0:;", "w0:!", "w0:A", "w0:g", "w0:0;", "w0:0!", "w0:0A", "w0:0g", "w0:00:", "w0:000;",
            "w0:0011223344556677f", "w0:00112233445566778", "w0:00!;", "w0:00!a", "w0:00!!", "w0:00!55", "w0:00!5!",
            "e8", "e9", "e;", "e00", "e10", "e7:", "e7a", "e7!;", "e7!a", "e7!55", "e7!5!", "ee",
            "t0", "t;", "t!", "t1!", "t1:", "t100", "t999", "tt", "t99w",
            "t1;;", "t1;!", "e1;x", "w0:00;1", "e1!5;t0",
        };
        for (String text : errors) {
            BusyChip chip = with(text);
            Check.same("18: " + text, text.length() - 1, chip.firstError());
            Check.text(chip, "t1");
            Check.same("18: the first error of " + text + "t1", text.length() - 1, chip.firstError());
            Check.argument("19: " + text + "t1", chip, () -> chip.obey());
        }
        BusyChip chip = with("t1");
        long before = chip.digest();
        chip.firstError();
        Check.same("18: nothing is changed", before, chip.digest());
    }

    private static void completeTexts() {
        String[] complete = {
            "w0:00", "w9:ff", "w10:0a", "w99:a0", "w100:19", "w199:9f", "w249:00", "w250:00", "w255:ff",
            "w0:0011223344556677", "w0:00112233445566ee!0", "w7:e5!9", "w7:e5;e5",
            "e0", "e7", "e7!0", "e0!9", "t1", "t9", "t10", "t99",
            "t1;t2;t3", "e1!3;w12:abcdef;t50", "t1;e0", "w1:00;w1:00!5;e1;e1!5;t1",
        };
        for (String text : complete) {
            BusyChip chip = with(text);
            Check.same("18: " + text, text.length(), chip.firstError());
            Check.same("19: " + text, text.split(";").length, chip.obey());
        }
        String[] open = {
            "", "w", "w2", "w25", "w0:", "w0:0", "w0:001", "w0:00!", "e", "e3!", "t", "t1;", "w0:00;", "e1!5;", "t1;w",
        };
        for (String text : open) {
            BusyChip chip = with(text);
            Check.same("18: " + text, text.length(), chip.firstError());
            Check.argument("19: " + text, chip, () -> chip.obey());
            Check.same("19: the buffer stays", text.length(), chip.clearBuffer());
        }
    }

    private static void obey() {
        BusyChip chip = with("w255:0f1e!7;e2;t3;w8:10;e3!0;w30:f0!9");
        chip.load(99);
        long before = chip.count(15);
        Check.same("19: obey()", 6, chip.obey());
        Check.same("19: one saved state", before + 1, chip.count(15));
        Check.same("19: the buffer is cleared", 0, chip.clearBuffer());
        Check.same("19: what is loaded stays", 99, chip.cell(0, 3));
        Check.same("19: ticks passed", 3, chip.count(0));
        Check.same("19: the urgent write is under way", 255, chip.work(0, 1));
        Check.same("19: its urgency", 7, chip.work(0, 3));
        Check.same("19: its first value", 0x0f, chip.cell(255, 0));
        Check.same("19: orders wait", 4, chip.count(10));
        int[][] due = {{4, 0, 30, 9, 0, 1}, {1, 1, 2, 5, 3, 0}, {2, 0, 8, 5, 0, 1}, {3, 1, 3, 0, 0, 0}};
        for (int rank = 0; rank < due.length; rank++) {
            for (int what = 0; what < 6; what++) {
                Check.same("19: order(" + rank + ", " + what + ")", due[rank][what], chip.order(rank, what));
            }
        }
        chip.pass(1);
        Check.same("19: its second value, round the page", 0x1e, chip.cell(248, 0));
        chip.pass(200);
        Check.same("19: a single value", 0x10, chip.cell(8, 0));
        Check.same("19: another one", 0xf0, chip.cell(30, 0));
        BusyChip other = with("e2");
        other.obey();
        Check.same("19: saved", 1, other.count(15));
        other.undo();
        Check.same("19: undo() as of one call, but the buffer", new BusyChip().digest(), other.digest());
        BusyChip eight = with("w0:0102030405060708");
        eight.obey();
        eight.pass(16);
        Check.same("19: the eighth value", 8, eight.cell(7, 0));
        Check.argument("19: the buffer is empty", eight, () -> eight.obey());
    }

    private static void obeyRefusedParts() {
        BusyChip chip = new BusyChip();
        for (int i = 0; i < 9; i++) {
            chip.post(1, 0, 0);
        }
        Check.text(chip, "e1;e2;t5;e3");
        Check.same("19: up to the first part that would throw", 1, chip.obey());
        Check.same("19: no tick passed", 0, chip.count(0));
        Check.same("19: the buffer is cleared", 0, chip.clearBuffer());
        Check.same("19: the last number", 9, chip.order(0, 0));
        Check.text(chip, "w0:00");
        long saved = chip.count(15);
        Check.same("19: none is done", 0, chip.obey());
        Check.same("19: saved also then", Math.min(6, saved + 1), chip.count(15));
        Check.same("19: cleared also then", 0, chip.clearBuffer());
        chip.undo();
        Check.same("19: and nothing was changed", 10, chip.count(10));
        chip.undo();
        Check.same("19: as one call", 9, chip.count(10));
        Check.text(chip, "e1;t1;e2");
        Check.same("19: time makes room", 3, chip.obey());
    }

    private static void keep() {
        BusyChip chip = new BusyChip();
        Check.same("20: keep()", 0, chip.keep());
        Check.isTrue("20: a snapshot is in the digest", new BusyChip().digest() != chip.digest());
        Check.same("20: it saves no state", 0, chip.count(15));
        chip.pass(17);
        Check.same("20: ticks so far", 17, chip.keep());
        chip.pass(1);
        Check.same("20: in place of the one that was", 17, chip.goBack());
    }

    private static void goBack() {
        BusyChip chip = new BusyChip();
        Check.state("21: no snapshot", chip, () -> chip.goBack());
        chip.load(5);
        chip.post(1, 0, 5);
        chip.load(6);
        chip.post(0, 200, 4);
        chip.pass(30);
        chip.keep();
        int[] kept = counts(chip);
        chip.cut();
        chip.set(0, 9);
        chip.post(1, 4, 1);
        chip.pass(50);
        Check.lockWholly(chip, 3, 0);
        Check.text(chip, "t1");
        Check.undoable("21: goBack()", chip, () -> chip.goBack());
        Check.same("21: goBack()", 30, chip.goBack());
        int[] back = counts(chip);
        for (int what = 0; what < 15; what++) {
            Check.same("21: count(" + what + ")", kept[what], back[what]);
        }
        Check.same("21: a setting", 2, chip.setting(0));
        Check.same("21: the buffer is not in it", 2, chip.clearBuffer());
        chip.pass(3);
        Check.same("21: it stays", 30, chip.goBack());
        Check.same("21: saved states are not in it", 6, chip.count(15));
        Check.same("21: numbers go on from there", 2, chip.post(1, 0, 0));
    }

    private static int[] counts(BusyChip chip) {
        int[] counts = new int[16];
        for (int what = 0; what < 16; what++) {
            counts[what] = chip.count(what);
        }
        return counts;
    }

    /** Changes all that there is, and takes it back by goBack() and by undo(); what goes on then is the same, too. */
    private static void undoBringsAllBack() {
        BusyChip chip = new BusyChip();
        chip.set(1, 1);
        chip.set(2, 1);
        Check.eraseWholly(chip, 0);
        Check.writeWholly(chip, 50, 1, 2, 3);
        Check.lockWholly(chip, 1, 0);
        chip.set(0, 5);
        chip.pass(4);
        chip.post(1, 4, 1);
        chip.pass(2);
        Check.load(chip, 7, 6, 5);
        chip.post(0, 77, 9);
        Check.load(chip, 9, 8);
        chip.post(0, 80, 8);
        chip.post(1, 3, 2);
        chip.pass(7);
        Check.load(chip, 1);
        long before = Check.stateOf(chip);
        chip.keep();
        changeAll(chip);
        Check.isTrue("22: all is changed", before != Check.stateOf(chip));
        chip.goBack();
        Check.same("21: all is back", before, Check.stateOf(chip));
        long[] first = later(chip);
        chip.goBack();
        Check.undoable("22: pass of many ticks", chip, () -> chip.pass(200));
        long[] second = later(chip);
        for (int i = 0; i < first.length; i++) {
            Check.same("22: what goes on behind it, " + i, first[i], second[i]);
        }
        BusyChip locks = new BusyChip();
        locks.arm();
        locks.lock(1, 0);
        Check.undoable("22: undo() in the midst of a change of the locks", locks, () -> locks.pass(10));
        locks.pass(5);
        Check.same("22: the side that was to be", 0, locks.count(4));
    }

    private static void changeAll(BusyChip chip) {
        chip.cut();
        Check.eraseWholly(chip, 1);
        Check.eraseWholly(chip, 1);
        Check.eraseWholly(chip, 1);
        Check.writeWholly(chip, 99, 3, 2, 1);
        Check.lockWholly(chip, 4, 1);
        chip.freeze();
        chip.arm();
        Check.load(chip, 44, 45);
        chip.post(0, 0, 0);
        Check.load(chip, 46);
        chip.set(4, 9);
    }

    private static long[] later(BusyChip chip) {
        long[] states = new long[30];
        for (int i = 0; i < states.length; i++) {
            chip.pass(1);
            states[i] = Check.stateOf(chip);
        }
        return states;
    }

    private static void undo() {
        BusyChip chip = new BusyChip();
        Check.state("22: there is none", chip, () -> chip.undo());
        long[] before = new long[10];
        for (int i = 0; i < 10; i++) {
            chip.keep();
            before[i] = Check.stateOf(chip);
            chip.load(i);
        }
        Check.same("22: at most 6", 6, chip.count(15));
        for (int i = 9; i >= 4; i--) {
            Check.same("22: undo()", i - 4, chip.undo());
            Check.same("22: the state before load(" + i + ")", before[i], Check.stateOf(chip));
        }
        Check.state("22: no more", chip, () -> chip.undo());
        Check.same("22: the oldest ones were dropped first", 4, chip.count(11));
        chip.goBack();
        Check.same("22: the snapshot stays", 9, chip.count(11));
        chip.undo();
        chip.append('t');
        chip.arm();
        chip.append('1');
        chip.undo();
        Check.same("22: the buffer stays", 2, chip.clearBuffer());
    }
}
