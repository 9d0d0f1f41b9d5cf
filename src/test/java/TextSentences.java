/** The terms of input text, undo and exceptions; promises 16 to 22. */
final class TextSentences extends Sentences {
    static void all() {
        writesAsText();
        otherParts();
        errors();
        undoTerm();
        exceptions();
        append();
        clearBuffer();
        firstError();
        obey();
        obeyRefused();
        keep();
        goBack();
        undo();
    }

    private static BusyChip with(String text) {
        BusyChip chip = new BusyChip();
        text(chip, text);
        return chip;
    }

    /** Each text is complete orders, and so has no error. */
    private static void complete(String... texts) {
        for (String text : texts) {
            BusyChip chip = with(text);
            same("firstError() of " + text, text.length(), chip.firstError());
            same("obey() of " + text, text.split(";").length, chip.obey());
        }
    }

    /** Each text is the beginning of some orders, but not complete. */
    private static void open(String... texts) {
        for (String text : texts) {
            BusyChip chip = with(text);
            same("firstError() of " + text, text.length(), chip.firstError());
            argument("obey() of " + text, chip, () -> chip.obey());
        }
    }

    /** The last character of each text is the first syntax error. */
    private static void wrong(String... texts) {
        for (String text : texts) {
            BusyChip chip = with(text);
            same("firstError() of " + text, text.length() - 1, chip.firstError());
            argument("obey() of " + text, chip, () -> chip.obey());
        }
    }

    /** All printed characters but these are syntax errors behind the beginning. */
    private static void wrongBut(String beginning, String right) {
        for (char next = 33; next <= 126; next++) {
            BusyChip chip = with(beginning + next);
            boolean isRight = right.indexOf(next) >= 0;
            same("firstError() of " + beginning + next, beginning.length() + (isRight ? 1 : 0), chip.firstError());
        }
    }

    private static void writesAsText() {
        in("Input text");
        held("The buffer has at most 60 characters", () -> {
            BusyChip chip = with("w0:0011223344556677;w8:8899aabbccddeeff;w16:0123456789abcdef");
            state("a 61st one", chip, () -> chip.append('!'));
            same("what stands is whole", 3, chip.obey());
            same("there is room again", 1, chip.append('t'));
        });
        held("Orders as a text are one or more parts with \";\" between them", () -> {
            complete("t1", "t1;t2", "e1;e2;e3;t1;w0:00", "w0:00;w0:00");
            complete("t1;t1;t1;t1;t1;t1;t1;t1;t1;t1;t1;t1;t1;t1;t1;t1;t1;t1;t1;t19");
            open("", "t1;", "e1;e2;", "w0:00;");
            wrong(";", "t1;;", "e1;e2;;", "t1,", "t1t", "e1e", "w0:00w", "w0:00!1w", "e1!1e", "e1,");
        });
        held("\"w\"", () -> {
            open("w", "t1;w");
            wrong("W", "x", "t1;W", "ww");
            wrongBut("", "wet");
            wrongBut("e7;", "wet");
        });
        held("the first cell, 0 to 255", () -> {
            for (int cell = 0; cell <= 255; cell++) {
                BusyChip chip = with("w" + cell + ":00");
                same("w" + cell, 1, chip.obey());
                same("its cell", cell, chip.order(0, 2));
            }
            wrong("w256", "w257", "w260", "w299", "w300", "w999", "w1000", "w2550", "w:", "w-", "wa", "w;");
            wrongBut("w", "0123456789");
            wrongBut("w25", "012345:");
            wrongBut("w24", "0123456789:");
            wrongBut("w26", ":");
            wrongBut("w255", ":");
        });
        held("\":\"", () -> {
            open("w0:", "w255:");
            wrong("w0;", "w0!", "w0::", "w2.", "w2t");
        });
        held("1 to 8 values", () -> {
            complete("w0:01", "w0:0102", "w0:010203", "w0:01020304", "w0:0102030405", "w0:010203040506");
            complete("w0:01020304050607", "w0:0102030405060708", "w0:0102030405060708!9", "w0:0102030405060708;t1");
            wrong("w0:;", "w0:!", "w0:01020304050607080");
            wrongBut("w0:0102030405060708", "!;");
            wrongBut("w0:01020304050607", "0123456789abcdef!;");
            BusyChip chip = obeyed("w255:0102030405060708");
            same("8 values", 8, chip.order(0, 5));
            chip.pass(16);
            cells(chip, 247, 255, 2, 3, 4, 5, 6, 7, 8, 1);
        });
        held("each as two figures to the base 16 (0 to 9 and a to f): a write", () -> {
            for (int value = 0; value <= 255; value++) {
                String figures = Integer.toHexString(256 + value).substring(1);
                BusyChip chip = obeyed("w9:" + figures + ";t2");
                same(figures, value, chip.cell(9, 0));
            }
            open("w0:0", "w0:f", "w0:000");
            wrong("w0:0;", "w0:0!", "w0:000;", "w0:g", "w0:0g", "w0:A", "w0:0F", "w0:/", "w0:0`", "w0:0@");
            wrongBut("w0:", "0123456789abcdef");
            wrongBut("w0:a", "0123456789abcdef");
        });
    }

    private static void otherParts() {
        held("\"e\" and a sector, 0 to 7: an erase", () -> {
            for (int sector = 0; sector <= 7; sector++) {
                BusyChip chip = obeyed("e" + sector);
                same("kind", 1, chip.order(0, 1));
                same("sector", sector, chip.order(0, 2));
            }
            open("e");
            wrong("e8", "e9", "e;", "e!", "e-", "e00", "e10", "e70", "e7:", "ee", "E");
            wrongBut("e", "01234567");
            wrongBut("e7", "!;");
            wrongBut("e0", "!;");
        });
        held("both perhaps with \"!\" and a digit behind", () -> {
            for (int urgency = 0; urgency <= 9; urgency++) {
                BusyChip chip = obeyed("w8:01!" + urgency);
                same("of a write", urgency, chip.order(0, 3));
                obeyed(chip, "t3;e7!" + urgency);
                same("of an erase", urgency, chip.order(0, 3));
            }
            open("w0:00!", "e0!");
            wrong("w0:00!;", "e0!;", "w0:00!!", "e0!a", "e0!10", "w0:00!00", "w0:00!9!", "e0!1!", "w0!", "t1!");
            wrongBut("w0:00!", "0123456789");
            wrongBut("e7!", "0123456789");
            wrongBut("w0:00!9", ";");
            wrongBut("e7!0", ";");
        });
        held("the urgency (5 without it)", () -> {
            BusyChip chip = obeyed("w8:01;e7;w9:01!0;e6;e5!9;w0:00");
            int[] due = {9, 5, 5, 5, 5, 0};
            for (int rank = 0; rank < due.length; rank++) {
                same("rank " + rank, due[rank], chip.order(rank, 3));
            }
        });
        held("or \"t\" and ticks, 1 to 99, that pass", () -> {
            for (int ticks = 1; ticks <= 99; ticks++) {
                same("t" + ticks, ticks, obeyed("t" + ticks).count(0));
            }
            same("of several parts", 99 + 1 + 10, obeyed("t99;t1;t10").count(0));
            open("t");
            wrong("t0", "t100", "t999", "t990", "t;", "t1!", "t1:", "t-", "T", "tt");
            wrongBut("t", "123456789");
            wrongBut("t9", "0123456789;");
            wrongBut("t99", ";");
        });
        held("Numbers have no leading zeros", () -> {
            complete("w0:00", "e0", "w10:00", "w100:00", "t10", "t90", "w0:00!0");
            wrong("w00", "w01", "w09", "e00", "e01", "e07", "t0", "e1;w00", "w0:00;t0");
            wrongBut("w0", ":");
        });
    }

    private static void errors() {
        held("The buffer is read from left to right", () -> {
            same("the first of several errors", 0, with("xyz").firstError());
            same("a later one does not matter", 2, with("t1x;t0").firstError());
            same("what is right behind it does not", 1, with("et1;e2").firstError());
            same("an error of a later part", 4, with("t1;ex").firstError());
        });
        held("a character is a syntax error if no orders as a text, of any length, "
                + "begin with the characters before it and this character", () -> {
            String most = "w0:0011223344556677;w8:8899aabbccddeeff;w16:0123456789abcde";
            open(most, most.substring(0, 58) + "!", most.substring(0, 54) + ";w1");
            BusyChip full = with(most.substring(0, 39) + ";t1;t1;t1;t1;t1;w123");
            same("it need not end within the buffer", 60, full.append(':'));
            same("no error", 60, full.firstError());
            argument("but not complete", full, () -> full.obey());
            wrong("w25;", "w256", "t100", "e0;e1;e8");
        });
    }

    private static void undoTerm() {
        in("Undo");
        held("Each method that is marked \"undoable\" and does not throw an exception saves the state from before it", () -> {
            BusyChip chip = new BusyChip();
            undone("arm", chip, () -> chip.arm());
            undone("load", chip, () -> chip.load(1));
            undone("unload", chip, () -> chip.unload());
            undone("freeze", chip, () -> chip.freeze());
            undone("cut", chip, () -> chip.cut());
            undone("post", chip, () -> chip.post(1, 0, 0));
            undone("pass", chip, () -> chip.pass(1));
            undone("set", chip, () -> chip.set(0, 1));
            load(chip, 1, 2);
            chip.arm();
            undone("write", chip, () -> chip.write(0));
            undone("erase", chip, () -> chip.erase(0));
            undone("lock", chip, () -> chip.lock(1, 0));
            chip.write(0);
            undone("suspend", chip, () -> chip.suspend());
            chip.suspend();
            undone("resume", chip, () -> chip.resume());
            BusyChip other = obeyed("e1;e2");
            undone("withdraw", other, () -> other.withdraw(1));
            other.keep();
            undone("goBack", other, () -> other.goBack());
        });
        held("and does not throw an exception", () -> {
            BusyChip chip = obeyed("e1;t1");
            same("saved states", 1, chip.count(15));
            state("arm", chip, () -> chip.arm());
            state("freeze", chip, () -> chip.freeze());
            state("write", chip, () -> chip.write(0));
            index("erase", chip, () -> chip.erase(8));
            argument("pass", chip, () -> chip.pass(0));
            same("saved states still", 1, chip.count(15));
        });
        held("(also if it changes nothing)", () -> {
            BusyChip chip = new BusyChip();
            undone("unload of nothing", chip, () -> chip.unload());
            undone("cut of nothing", chip, () -> chip.cut());
            undone("set to what it is", chip, () -> chip.set(0, 2));
            chip.arm();
            undone("arm again", chip, () -> chip.arm());
            chip.freeze();
            undone("freeze again", chip, () -> chip.freeze());
            chip.keep();
            undone("back to where it is", chip, () -> chip.goBack());
        });
        held("all, also what is counted so far", () -> {
            BusyChip chip = new BusyChip();
            chip.set(1, 1);
            chip.set(2, 1);
            obeyed(chip, "e0;e0;w3:00;w4:00;e1!0;t1;t99;e2!0;t3;w4:00!9;t1");
            for (int i = 0; i < 3; i++) {
                chip.undo();
            }
            for (int what = 0; what <= 15; what++) {
                same("count(" + what + ")", what == 4 ? 1 : what == 5 ? 2048 : 0, chip.count(what));
            }
            same("the number of orders", 0, chip.post(1, 0, 0));
            same("erasures", 0, chip.sector(0, 0));
            same("settings", 20, chip.setting(1));
            BusyChip locks = new BusyChip();
            lockWholly(locks, 2, 0);
            locks.undo();
            same("the locks", 0, locks.count(3));
            same("their side", 1, locks.count(4));
            same("the side that is to be", 5, locks.pass(9));
            same("is", 0, locks.count(4));
        });
        held("saves the state from before it", () -> {
            BusyChip chip = new BusyChip();
            chip.set(0, 3);
            load(chip, 1, 2);
            chip.arm();
            chip.write(7);
            chip.pass(2);
            chip.pass(9);
            chip.set(0, 1);
            load(chip, 3);
            chip.arm();
            chip.write(16);
            for (int i = 0; i < 5; i++) {
                chip.undo();
            }
            works(chip, 0, 1, 7, 4, -1, 0);
            chip.pass(1);
            cells(chip, 7, 1);
            chip.pass(2);
            cells(chip, 0, 255);
            same("the pace that the write had", 1, chip.pass(5));
            cells(chip, 0, 2);
            cells(chip, 16, 255);
        });
        held("but the buffer, the snapshot and the saved states", () -> {
            BusyChip chip = new BusyChip();
            text(chip, "t1");
            chip.arm();
            text(chip, ";t2");
            chip.keep();
            chip.cut();
            chip.undo();
            chip.undo();
            same("the buffer", 5, chip.clearBuffer());
            same("no saved states", 0, chip.count(15));
            same("not armed", 0, chip.count(1));
            chip.goBack();
            same("the snapshot", 1, chip.count(1));
        });
        held("At most 6 states are saved", () -> {
            BusyChip chip = new BusyChip();
            for (int i = 1; i <= 12; i++) {
                chip.load(i);
                same("saved states", Math.min(6, i), chip.count(15));
            }
            for (int left = 5; left >= 0; left--) {
                same("undo()", left, chip.undo());
            }
            state("a seventh one", chip, () -> chip.undo());
            same("6 are taken back", 6, chip.count(11));
        });
        held("the oldest one is dropped first", () -> {
            BusyChip chip = new BusyChip();
            for (int i = 0; i < 7; i++) {
                chip.pass(1);
            }
            for (int ticks = 6; ticks >= 1; ticks--) {
                chip.undo();
                same("ticks", ticks, chip.count(0));
            }
            state("the state of a new chip is dropped", chip, () -> chip.undo());
            chip.pass(9);
            same("places are used again", 1, chip.count(15));
            chip.undo();
            same("rightly", 1, chip.count(0));
        });
    }

    private static void exceptions() {
        in("Exceptions");
        held("A call that throws an exception changes nothing", () -> {
            BusyChip chip = obeyed("e3!0;t2;w0:0102!9;e4;t1");
            chip.load(9);
            chip.keep();
            text(chip, "t0");
            BusyChip other = obeyed("e3!0;t2;w0:0102!9;e4;t1");
            other.load(9);
            other.keep();
            text(other, "t0");
            refuseAll(chip);
            same("what is seen", other.digest(), chip.digest());
            same("the next number", other.post(1, 5, 9), chip.post(1, 5, 9));
            other.pass(70);
            chip.pass(70);
            same("what comes", other.digest(), chip.digest());
            other.undo();
            chip.undo();
            same("what was saved", other.digest(), chip.digest());
            other.goBack();
            chip.goBack();
            same("what was kept", other.digest(), chip.digest());
        });
        held("If several exceptions apply, the one that is named first in the throws clause is thrown", () -> {
            BusyChip chip = obeyed("e3;t1;e0;e1;e2;e3;e4;e5;e6;e7;e0;e1");
            load(chip, new int[12]);
            text(chip, "t1;t1;t1;t1;t1;t1;t1;t1;t1;t1;t1;t1;t1;t1;t1;t1;t1;t1;t1;t19");
            argument("load", chip, () -> chip.load(256));
            index("write", chip, () -> chip.write(256));
            index("erase", chip, () -> chip.erase(8));
            argument("lock", chip, () -> chip.lock(5, 0));
            argument("post, of three", chip, () -> chip.post(0, 256, 10));
            argument("post, of two", chip, () -> chip.post(1, 8, -1));
            index("post, of the others", chip, () -> chip.post(0, 256, 0));
            index("set", chip, () -> chip.set(5, 0));
            argument("append", chip, () -> chip.append(127));
            index("read", chip, () -> chip.read(256));
            index("cell", chip, () -> chip.cell(256, 4));
            index("sector", chip, () -> chip.sector(8, 7));
            index("order", chip, () -> chip.order(10, 6));
            argument("why", chip, () -> chip.why(0, 256));
            argument("why, of a level", chip, () -> chip.why(4, 5));
        });
        held("The constants: `NONE = -1`: There is nothing to return", () -> {
            same("NONE", -1, BusyChip.NONE);
            BusyChip chip = new BusyChip();
            same("no value for a cell", -1, chip.cell(0, 3));
            same("no place of a work", -1, chip.work(0, 1));
            same("no urgency of a work", -1, chip.work(1, 3));
            lockWholly(chip, 4, 0);
            same("nowhere to fit", -1, chip.fits());
            same("no sector is worn least", -1, chip.leastWorn());
        });
        held("Ahead of the calls `arm`, `load`, `unload`, `write`, `erase`, `lock`, `freeze`, `suspend`, `resume`, `cut` "
                + "the interface says: ---- works by hand", () -> heading("works by hand",
                "arm load unload write erase lock freeze suspend resume cut"));
        held("Ahead of the calls `post`, `withdraw`, `pass`, `set` the interface says: ---- orders, time, settings",
                () -> heading("orders, time, settings", "post withdraw pass set"));
        held("Ahead of the calls `append`, `clearBuffer`, `firstError`, `obey`, `keep`, `goBack`, `undo` "
                + "the interface says: ---- texts, the snapshot", () -> heading("texts, the snapshot",
                "append clearBuffer firstError obey keep goBack undo"));
        held("Ahead of the calls `read`, `cell`, `sector`, `work`, `order`, `count`, `setting`, `why` "
                + "the interface says: ---- looks; nothing is changed", () -> {
            heading("looks; nothing is changed", "read cell sector work order count setting why");
            BusyChip chip = looksLikeMuch();
            long before = chip.digest();
            for (int i = 0; i <= 7; i++) {
                chip.cell(40 * (i % 7), i % 4);
                chip.sector(i, i % 7);
                chip.work(i % 2, i % 5);
                chip.order(i % 2, i % 6);
                chip.count(2 * i);
                chip.setting(i % 5);
                chip.why(1 + i % 3, i % 5);
                same("behind looks", before, chip.digest());
            }
            BusyChip idle = new BusyChip();
            before = idle.digest();
            same("read", 255, idle.read(0));
            same("behind read", before, idle.digest());
        });
        held("Ahead of the calls `misses`, `fits`, `freeIn`, `leastWorn`, `commonest`, `onesShare`, `meanWear`, `digest` "
                + "the interface says: ---- what would be; nothing is changed", () -> {
            heading("what would be; nothing is changed",
                    "misses fits freeIn leastWorn commonest onesShare meanWear digest");
            BusyChip chip = looksLikeMuch();
            long before = chip.digest();
            chip.misses(3);
            chip.fits();
            chip.freeIn();
            chip.leastWorn();
            chip.commonest();
            chip.onesShare();
            chip.meanWear();
            chip.digest();
            same("behind them", before, chip.digest());
            chip.undo();
            BusyChip other = looksLikeMuch();
            other.undo();
            same("nor what was saved", other.digest(), chip.digest());
        });
    }

    private static BusyChip looksLikeMuch() {
        BusyChip chip = obeyed("e3!0;t2;w0:0102!9;e4;w9:03!1;t1");
        load(chip, 9, 0);
        chip.keep();
        text(chip, "t1;x");
        return chip;
    }

    private static void refuseAll(BusyChip chip) {
        state("arm", chip, () -> chip.arm());
        argument("load", chip, () -> chip.load(256));
        index("write", chip, () -> chip.write(256));
        state("write when busy", chip, () -> chip.write(0));
        index("erase", chip, () -> chip.erase(8));
        state("erase when busy", chip, () -> chip.erase(0));
        argument("lock", chip, () -> chip.lock(5, 0));
        state("lock when busy", chip, () -> chip.lock(1, 0));
        state("freeze", chip, () -> chip.freeze());
        state("suspend", chip, () -> chip.suspend());
        state("resume", chip, () -> chip.resume());
        argument("post", chip, () -> chip.post(2, 0, 0));
        index("post at no place", chip, () -> chip.post(0, 256, 0));
        index("withdraw", chip, () -> chip.withdraw(0));
        argument("pass", chip, () -> chip.pass(201));
        index("set", chip, () -> chip.set(5, 1));
        argument("set to no value", chip, () -> chip.set(0, 0));
        argument("append", chip, () -> chip.append(32));
        argument("obey", chip, () -> chip.obey());
        index("read", chip, () -> chip.read(256));
        state("read when busy", chip, () -> chip.read(0));
        index("cell", chip, () -> chip.cell(256, 0));
        argument("cell of no kind", chip, () -> chip.cell(0, 4));
        index("sector", chip, () -> chip.sector(8, 0));
        argument("sector of no kind", chip, () -> chip.sector(0, 7));
        argument("work", chip, () -> chip.work(2, 0));
        index("order", chip, () -> chip.order(9, 0));
        argument("order of no kind", chip, () -> chip.order(0, 6));
        argument("count", chip, () -> chip.count(16));
        index("setting", chip, () -> chip.setting(5));
        argument("why", chip, () -> chip.why(4, 0));
        index("why of no place", chip, () -> chip.why(1, 256));
        index("misses", chip, () -> chip.misses(256));
    }

    private static void append() {
        in("Promise 16");
        held("Appends a character to the buffer", () -> {
            BusyChip chip = new BusyChip();
            chip.append('t');
            chip.append('7');
            chip.obey();
            same("the text", 7, chip.count(0));
            savesNothing("append", chip, () -> chip.append('t'));
        });
        held("`code`: the character code, 33 to 126", () -> {
            for (int code = 33; code <= 126; code++) {
                BusyChip chip = new BusyChip();
                same("append(" + code + ")", 1, chip.append(code));
                boolean begins = code == 'w' || code == 'e' || code == 't';
                same("firstError()", begins ? 1 : 0, chip.firstError());
            }
        });
        held("Returns the new length of the buffer", () -> {
            BusyChip chip = new BusyChip();
            for (int length = 1; length <= 60; length++) {
                same("append", length, chip.append('~'));
            }
            chip.clearBuffer();
            same("from the start again", 1, chip.append('~'));
        });
        held("Throws `IllegalArgumentException` if code is not 33 to 126", () -> {
            BusyChip chip = with("t1");
            argumentOutside(chip, 33, 126, code -> chip.append(code));
            argument("none", chip, () -> chip.append(0));
            argument("a space", chip, () -> chip.append(' '));
            argument("a line's end", chip, () -> chip.append('\n'));
            argument("one that a char would take for a t", chip, () -> chip.append(65536 + 't'));
            same("the text stands", 1, chip.obey());
            for (int i = 0; i < 60; i++) {
                chip.append('t');
            }
            argument("ahead of 60 characters, below", chip, () -> chip.append(32));
            argument("ahead of 60 characters, above", chip, () -> chip.append(127));
        });
        held("Throws `IllegalStateException` if the buffer has 60 characters", () -> {
            BusyChip chip = new BusyChip();
            for (int i = 0; i < 59; i++) {
                chip.append('t');
            }
            same("the 60th", 60, chip.append('t'));
            state("the least code", chip, () -> chip.append(33));
            state("the greatest code", chip, () -> chip.append(126));
            same("its length", 60, chip.clearBuffer());
            same("there is room", 1, chip.append('t'));
        });
    }

    private static void clearBuffer() {
        in("Promise 17");
        held("Clears the buffer", () -> {
            BusyChip chip = with("t0");
            chip.clearBuffer();
            same("no error", 0, chip.firstError());
            text(chip, "t4");
            same("nothing is left of the old text", 1, chip.obey());
            same("ticks", 4, chip.count(0));
            savesNothing("clearBuffer", chip, () -> chip.clearBuffer());
        });
        held("Returns the length that it had", () -> {
            BusyChip chip = new BusyChip();
            same("empty", 0, chip.clearBuffer());
            for (int length = 1; length <= 60; length += 59) {
                for (int i = 0; i < length; i++) {
                    chip.append('x');
                }
                same("some", length, chip.clearBuffer());
                same("empty by then", 0, chip.clearBuffer());
            }
        });
    }

    private static void firstError() {
        in("Promise 18");
        held("Finds the first syntax error of the buffer", () -> {
            BusyChip chip = with("e7;w255:ff!9;t99;x");
            same("the last character", 17, chip.firstError());
            same("it is found again", 17, chip.firstError());
            same("nothing is changed", 18, chip.clearBuffer());
            savesNothing("firstError", chip, () -> chip.firstError());
        });
        held("Returns the index of the first character that is a syntax error", () -> {
            String text = "w12:0f1e!3;e5;t60";
            for (int i = 0; i < text.length(); i++) {
                same("index " + i, i, with(text.substring(0, i) + "~" + text.substring(i + 1)).firstError());
            }
            same("the last one of 60", 59, with("t1;t1;t1;t1;t1;t1;t1;t1;t1;t1;t1;t1;t1;t1;t1;t1;t1;t1;t1;t1!").firstError());
        });
        held("the length of the buffer if there is none", () -> {
            same("empty", 0, with("").firstError());
            String text = "w12:0f1e!3;e5;t60";
            for (int i = 1; i <= text.length(); i++) {
                same("length " + i, i, with(text.substring(0, i)).firstError());
            }
            same("60", 60, with("t1;t1;t1;t1;t1;t1;t1;t1;t1;t1;t1;t1;t1;t1;t1;t1;t1;t1;t1;t19").firstError());
        });
    }

    private static void obey() {
        in("Promise 19");
        held("Does what the buffer tells, one part after the other", () -> {
            BusyChip chip = obeyed("e3!1;t2;w0:0102!9;t1");
            works(chip, 1, 2, 3, 22, 1, 1);
            works(chip, 0, 1, 0, 3, 9, 0);
            same("ticks", 3, chip.count(0));
        });
        held("orders are posted as by post(), with their own values (what is loaded stays)", () -> {
            BusyChip chip = new BusyChip();
            load(chip, 77, 78);
            chip.post(1, 7, 1);
            obeyed(chip, "w255:0f1e!7;e2;w8:10");
            int[][] due = {{1, 0, 255, 7, 0, 2}, {2, 1, 2, 5, 0, 0}, {3, 0, 8, 5, 0, 1}, {0, 1, 7, 1, 0, 0}};
            for (int rank = 0; rank < due.length; rank++) {
                for (int what = 0; what < 6; what++) {
                    same("order(" + rank + ", " + what + ")", due[rank][what], chip.order(rank, what));
                }
            }
            same("what is loaded", 2, chip.count(11));
            same("its last value", 78, chip.cell(1, 3));
            chip.pass(4);
            cells(chip, 248, 0x1e);
            cells(chip, 255, 0x0f);
            same("the number of the next one", 4, chip.post(0, 0, 0));
        });
        held("and ticks pass as by pass()", () -> {
            BusyChip chip = obeyed("e0;w40:01;t26");
            BusyChip other = obeyed("e0;w40:01");
            other.pass(26);
            other.undo();
            other.undo();
            chip.undo();
            same("saved states alike", other.digest(), chip.digest());
            obeyed(other, "e0;w40:01");
            other.pass(25);
            same("one tick before the end", 1, other.freeIn());
            obeyed(chip, "e0;w40:01;t25");
            same("the same by the text", 1, chip.freeIn());
            same("ticks", 25, chip.count(0));
        });
        held("up to the first part that would throw an exception", () -> {
            BusyChip chip = obeyed("e0;e1;e2;e3;e4;e5;e6;e7;e0");
            text(chip, "e1;w2:00;t5;e3");
            same("the eleventh order", 1, chip.obey());
            same("orders", 10, chip.count(10));
            same("no later tick passed", 0, chip.count(0));
            text(chip, "w0:00;t1");
            same("the first part", 0, chip.obey());
            same("nothing is done", 0, chip.count(0));
            same("no number was used", 9, chip.order(9, 0));
            text(chip, "t1;e4;e5");
            same("a tick makes room for one", 2, chip.obey());
            same("orders", 10, chip.count(10));
        });
        held("and clears the buffer", () -> {
            BusyChip chip = obeyed("e0;e1;e2;e3;e4;e5;e6;e7;e0;e1");
            same("all parts done", 0, chip.clearBuffer());
            text(chip, "e0;t5");
            chip.obey();
            same("none done", 0, chip.clearBuffer());
        });
    }

    private static void obeyRefused() {
        held("Undoable, as one call, also if none is done", () -> {
            BusyChip chip = new BusyChip();
            long before = chip.digest();
            obeyed(chip, "e0;t3;e1;w0:00;t4");
            same("saved states", 1, chip.count(15));
            same("undo()", 0, chip.undo());
            same("the state", before, chip.digest());
            obeyed(chip, "e0;e1;e2;e3;e4;e5;e6;e7;e0;e1");
            before = chip.digest();
            text(chip, "e7;t1");
            same("none is done", 0, chip.obey());
            same("saved states, too", 2, chip.count(15));
            same("undo(), too", 1, chip.undo());
            same("the state, too", before, chip.digest());
        });
        held("Returns how many parts are done", () -> {
            for (int parts = 1; parts <= 20; parts++) {
                BusyChip chip = with("t1;t1;t1;t1;t1;t1;t1;t1;t1;t1;t1;t1;t1;t1;t1;t1;t1;t1;t1;t1".substring(0, 3 * parts - 1));
                same("parts", parts, chip.obey());
                same("ticks", parts, chip.count(0));
            }
            same("orders are parts, too", 3, with("e1;w0:00;t1").obey());
            same("10 of 12", 10, with("e0;e1;e2;e3;e4;e5;e6;e7;e0;e1;e2;e3").obey());
        });
        held("Throws `IllegalArgumentException` if the buffer is not complete orders as a text", () -> {
            open("", "w", "w2", "w25", "w255", "w0:", "w0:0", "w0:001", "w0:00!", "e", "e3!", "t", "t1;", "e1;t1;w9");
            wrong("x", "t0", "e8", "w256", "t1;;", "e1;t1;w9!");
            BusyChip chip = with("e0;t5;");
            argument("no part is done", chip, () -> chip.obey());
            same("no tick", 0, chip.count(0));
            same("the buffer stays", 6, chip.clearBuffer());
        });
    }

    private static void keep() {
        in("Promise 20");
        held("Takes a snapshot of the state (of all that undo() would restore)", () -> {
            BusyChip chip = kept();
            chip.pass(30);
            chip.cut();
            chip.freeze();
            chip.set(1, 50);
            chip.arm();
            chip.goBack();
            BusyChip other = kept();
            other.goBack();
            same("all is as it was", other.digest(), chip.digest());
            chip.pass(100);
            other.pass(100);
            same("so is what comes", other.digest(), chip.digest());
            savesNothing("keep", chip, () -> chip.keep());
        });
        held("in place of the one that was", () -> {
            BusyChip chip = new BusyChip();
            chip.load(1);
            chip.keep();
            chip.load(2);
            chip.keep();
            chip.unload();
            chip.goBack();
            same("the later one", 2, chip.count(11));
            chip.unload();
            chip.keep();
            chip.load(3);
            chip.goBack();
            same("the last one", 0, chip.count(11));
        });
        held("Returns how many ticks passed so far", () -> {
            BusyChip chip = new BusyChip();
            same("none", 0, chip.keep());
            chip.pass(200);
            obeyed(chip, "t99");
            same("299", 299, chip.keep());
            chip.undo();
            same("but for those that are undone", 200, chip.keep());
        });
    }

    /** A chip with a snapshot in which nothing is as it was at first. */
    private static BusyChip kept() {
        BusyChip chip = new BusyChip();
        chip.set(1, 1);
        chip.set(2, 1);
        obeyed(chip, "e0;e0;w3:00;w4:00;t20;e2!0;t3;w4:0102!9;t1;w7:03!8;e7");
        load(chip, 5, 6);
        chip.keep();
        return chip;
    }

    private static void goBack() {
        in("Promise 21");
        held("Goes back to the snapshot", () -> {
            BusyChip chip = obeyed("e3!0;t2;w0:0102!9;e4;t1");
            chip.load(9);
            chip.keep();
            long later = laterOf(chip);
            chip.goBack();
            works(chip, 0, 1, 0, 3, 9, 0);
            works(chip, 1, 2, 3, 22, 0, 1);
            orders(chip, 2);
            same("loaded", 9, chip.cell(0, 3));
            same("the next number", 3, chip.post(1, 0, 0));
            chip.goBack();
            same("what comes is the same again", later, laterOf(chip));
        });
        held("which stays", () -> {
            BusyChip chip = new BusyChip();
            chip.load(7);
            chip.keep();
            for (int i = 0; i < 3; i++) {
                chip.unload();
                chip.pass(20);
                chip.goBack();
                same("loaded", 1, chip.count(11));
                same("ticks", 0, chip.count(0));
            }
            chip.undo();
            chip.goBack();
            same("also behind undo()", 1, chip.count(11));
        });
        held("Undoable", () -> {
            BusyChip chip = new BusyChip();
            chip.keep();
            obeyed(chip, "e3!0;t2;w0:0102!9;e4;t1");
            undone("goBack()", chip, () -> chip.goBack());
            works(chip, 0, 1, 0, 3, 9, 0);
        });
        held("Returns how many ticks passed so far then", () -> {
            BusyChip chip = new BusyChip();
            chip.pass(17);
            chip.keep();
            chip.pass(200);
            same("as many as when it was taken", 17, chip.goBack());
            same("count(0)", 17, chip.count(0));
            same("once more", 17, chip.goBack());
        });
        held("Throws `IllegalStateException` if there is no snapshot", () -> {
            BusyChip chip = new BusyChip();
            state("a new chip", chip, () -> chip.goBack());
            chip.arm();
            state("saved states are none", chip, () -> chip.goBack());
            chip.keep();
            chip.undo();
            same("undo() takes it not away", 0, chip.goBack());
            same("armed, as when it was taken", 1, chip.count(1));
        });
    }

    /** What the chip answers behind 40 ticks more. */
    private static long laterOf(BusyChip chip) {
        chip.pass(40);
        long later = chip.count(8);
        for (int cell = 0; cell < 128; cell++) {
            later = 31 * later + chip.cell(cell, 0);
        }
        return 31 * later + chip.work(0, 2);
    }

    private static void undo() {
        in("Promise 22");
        held("Restores the latest saved state, and drops it", () -> {
            BusyChip chip = new BusyChip();
            chip.load(1);
            chip.pass(3);
            chip.load(2);
            chip.undo();
            same("the value that came last", 1, chip.count(11));
            same("the ticks stay", 3, chip.count(0));
            chip.undo();
            same("the ticks", 0, chip.count(0));
            same("the first value stays", 1, chip.count(11));
            chip.undo();
            same("nothing is loaded", 0, chip.count(11));
            same("as a new chip", new BusyChip().digest(), chip.digest());
        });
        held("Returns how many saved states are left", () -> {
            BusyChip chip = new BusyChip();
            for (int i = 0; i < 8; i++) {
                chip.arm();
            }
            for (int left = 5; left >= 0; left--) {
                same("undo()", left, chip.undo());
                same("count(15)", left, chip.count(15));
            }
        });
        held("Throws `IllegalStateException` if there is none", () -> {
            BusyChip chip = new BusyChip();
            state("a new chip", chip, () -> chip.undo());
            chip.keep();
            chip.append('t');
            state("nothing undoable was done", chip, () -> chip.undo());
            chip.arm();
            chip.undo();
            state("all is undone", chip, () -> chip.undo());
        });
    }

    /** The source has this heading, and behind it these methods of the face, and no others up to the next one. */
    private static void heading(String words, String methods) {
        String source = FaceTest.sourceText();
        int from = source.indexOf("    // ---- " + words + "\n");
        isTrue("the heading", from >= 0);
        int to = source.indexOf("    // ---- ", from + 1);
        StringBuilder found = new StringBuilder();
        source.substring(Math.max(0, from), to).lines().filter(line -> line.startsWith("    public "))
                .forEach(line -> found.append(' ').append(line.replaceAll("\\(.*", "").replaceAll(".* ", "")));
        isTrue("the calls behind it:" + found, found.toString().equals(" " + methods));
    }
}
