/** The terms of the clerk and of settings; promises 12 to 15. */
final class ClerkSentences extends Sentences {
    static void all() {
        clerk();
        rank();
        pressing();
        rules();
        settings();
        post();
        postRefused();
        withdraw();
        pass();
        set();
    }

    private static void clerk() {
        in("The clerk");
        held("Up to 10 orders wait", () -> {
            BusyChip chip = obeyed("e0;e1;e2;e3;e4;e5;e6;e7;w0:00");
            same("the tenth", 9, chip.post(1, 0, 0));
            same("orders", 10, chip.count(10));
            chip.load(1);
            state("the eleventh, an erase", chip, () -> chip.post(1, 0, 0));
            state("the eleventh, a write", chip, () -> chip.post(0, 0, 0));
            chip.withdraw(4);
            same("there is room again", 10, chip.post(0, 0, 0));
            chip.pass(1);
            same("also for one that is begun", 11, chip.post(1, 0, 0));
        });
        held("each a write or an erase with an urgency from 0 to 9", () -> {
            BusyChip chip = new BusyChip();
            post(chip, 8, 0, 1);
            chip.post(1, 7, 9);
            same("an erase", 1, chip.order(0, 1));
            same("the greatest urgency", 9, chip.order(0, 3));
            same("a write", 0, chip.order(1, 1));
            same("the least urgency", 0, chip.order(1, 3));
            argumentOutside(chip, 0, 1, kind -> chip.post(kind, 0, 0));
            argumentOutside(chip, 0, 9, urgency -> chip.post(1, 0, urgency));
        });
        held("The clerk begins orders", () -> {
            BusyChip chip = obeyed("w3:f0!0;e7!0;t1");
            works(chip, 0, 1, 3, 1, 0, 0);
            chip.pass(2);
            works(chip, 0, 2, 7, 23, 0, 0);
        });
        held("for that the chip need not be armed", () -> {
            BusyChip chip = new BusyChip();
            chip.post(1, 7, 0);
            same("not armed", 0, chip.count(1));
            same("begun", 1, chip.pass(1));
            same("not armed by that", 0, chip.count(1));
        });
        held("An order that is begun waits no more", () -> {
            BusyChip chip = obeyed("e7;t1");
            same("orders", 0, chip.count(10));
            index("it can not be withdrawn", chip, () -> chip.withdraw(0));
            index("it has no rank", chip, () -> chip.order(0, 0));
            same("it is not for its sector", 0, chip.sector(7, 6));
            chip.cut();
            same("not even if it is lost", 0, chip.pass(50));
        });
    }

    private static void rank() {
        held("One order is ahead of another one if its urgency is greater", () -> {
            BusyChip chip = obeyed("e0!0;e1!9;e2!1;e3!8;e4!2;e5!7;e6!3;e7!6;e0!4");
            orders(chip, 1, 3, 5, 7, 8, 6, 4, 2, 0);
            chip.post(1, 1, 5);
            orders(chip, 1, 3, 5, 7, 9, 8, 6, 4, 2, 0);
        });
        held("of the same urgency, if it was posted earlier", () -> {
            BusyChip chip = obeyed("e7!5;w0:00!5;e3!9;e2!9;e1!5;w9:00!0;w8:00!0");
            orders(chip, 2, 3, 0, 1, 4, 5, 6);
            chip.withdraw(0);
            chip.post(1, 7, 5);
            orders(chip, 2, 3, 1, 4, 7, 5, 6);
        });
        held("Orders for a locked sector are passed over", () -> {
            BusyChip chip = new BusyChip();
            chip.set(0, 1);
            lockWholly(chip, 1, 1);
            obeyed(chip, "e7!9;w224:00!9;w255:00!9");
            same("none is begun", 0, chip.pass(20));
            same("none is lost", 3, chip.count(10));
            obeyed(chip, "w223:07!0;t1");
            cells(chip, 223, 7, 255);
            obeyed(chip, "e2!0;t1");
            works(chip, 0, 2, 2, 23, 0, 0);
            chip.pass(1);
            same("nor does one press", 0, chip.count(14));
            obeyed(chip, "w0:01!3;t1");
            same("but another one does", 1, chip.work(1, 4));
            chip.pass(1);
            works(chip, 0, 2, 2, 21, 0, 0);
            chip.pass(21);
            orders(chip, 0, 1, 2);
            lockWholly(chip, 1, 0);
            chip.pass(1);
            works(chip, 0, 2, 7, 23, 9, 0);
        });
    }

    private static void pressing() {
        held("An order presses an erase if it is a write", () -> {
            BusyChip chip = obeyed("e0!0;t1;e1!9;t5");
            works(chip, 0, 2, 0, 18, 0, 0);
            same("no erase presses", 0, chip.count(14));
        });
        held("for another sector than that of the erase", () -> {
            for (int sector = 0; sector < 8; sector++) {
                BusyChip chip = new BusyChip();
                chip.post(1, sector, 0);
                chip.pass(1);
                post(chip, 32 * sector, 9, 1);
                post(chip, 32 * sector + 31, 9, 1);
                chip.pass(1);
                same("its own first and last cell", 0, chip.count(14));
                post(chip, (32 * sector + 32) % 256, 9, 1);
                chip.pass(1);
                same("the cell behind it", (32 * sector + 32) % 256, chip.work(0, 1));
                chip.pass(2);
                post(chip, (32 * sector + 255) % 256, 9, 1);
                chip.pass(1);
                same("the cell before it", (32 * sector + 255) % 256, chip.work(0, 1));
            }
        });
        held("and its urgency is at least that of the order of the erase and setting 4 together", () -> {
            for (int erase = 0; erase <= 9; erase++) {
                for (int more = 1; more <= 9; more++) {
                    for (int write = Math.max(0, erase + more - 1); write <= Math.min(9, erase + more); write++) {
                        BusyChip chip = new BusyChip();
                        chip.set(4, more);
                        chip.post(1, 7, erase);
                        chip.pass(1);
                        post(chip, 0, write, 1);
                        chip.pass(1);
                        same(erase + " and " + more + " against " + write, write >= erase + more ? 1 : 0, chip.count(14));
                    }
                }
            }
            BusyChip chip = obeyed("e7!6;t1;w0:00!8;t1");
            chip.set(4, 2);
            chip.pass(1);
            same("the setting as it is in the tick", 1, chip.count(14));
        });
    }

    private static void rules() {
        held("In each tick that passes, the clerk does the first of these that fits, ahead of all else "
                + "(a work that the clerk begins, or lets go on, goes on by one tick in the same tick)", () -> {
            BusyChip chip = new BusyChip();
            chip.set(0, 1);
            obeyed(chip, "w0:01!4;w8:02!3;e3!0");
            for (int i = 0; i < 2; i++) {
                same("one tick", 1, chip.pass(1));
                cells(chip, 8 * i, i + 1);
                same("begun and ended", 0, chip.work(0, 0));
            }
            chip.pass(1);
            same("an erase is begun", 23, chip.work(0, 2));
            cells(chip, 96, 0);
            obeyed(chip, "w9:03!3;t1");
            cells(chip, 9, 3);
            same("the erase stands still in that tick", 23, chip.work(1, 2));
            chip.pass(1);
            same("and goes on in the next one", 22, chip.work(0, 2));
            cells(chip, 104, 0);
        });
        held("1. An erase that the clerk began is under way, nothing is set aside, and some order presses it: "
                + "the erase is set aside by the clerk, and the foremost order that presses it is begun", () -> {
            BusyChip chip = obeyed("e3!2;t3;w100:01!9;e1!9;w0:02!5;w40:03!6;w8:04!6;w16:05!4;t1");
            works(chip, 1, 2, 3, 21, 2, 1);
            works(chip, 0, 1, 40, 1, 6, 0);
            orders(chip, 1, 2, 5, 3, 6);
            same("how often", 1, chip.count(14));
            BusyChip last = obeyed("e3!2;t23;w0:01!5;t1");
            works(last, 1, 2, 3, 1, 2, 1);
            BusyChip begun = obeyed("e3!2;w0:01!1;t1");
            works(begun, 0, 2, 3, 23, 2, 0);
            BusyChip byHand = new BusyChip();
            byHand.arm();
            byHand.erase(3);
            obeyed(byHand, "w0:01!9;t5");
            works(byHand, 0, 2, 3, 19, -1, 0);
            BusyChip goesOn = obeyed("e3!2;t2");
            goesOn.suspend();
            goesOn.resume();
            obeyed(goesOn, "w0:01!5;t1");
            works(goesOn, 1, 2, 3, 22, 2, 1);
        });
        held("2. A work is under way, or one is set aside by hand: nothing", () -> {
            BusyChip chip = obeyed("w0:0102!0;t1;w8:03!9;e7!9;t2");
            works(chip, 0, 1, 0, 1, 0, 0);
            orders(chip, 1, 2);
            BusyChip locks = new BusyChip();
            locks.arm();
            locks.lock(1, 1);
            obeyed(locks, "e0!9;t4");
            works(locks, 0, 3, 1, 1, -1, 0);
            BusyChip aside = obeyed("e3!0;t2");
            aside.suspend();
            obeyed(aside, "w0:01!9;e3!9");
            same("the clerk's own erase, set aside by hand", 0, aside.pass(200));
            works(aside, 1, 2, 3, 22, 0, 0);
            orders(aside, 1, 2);
            aside.load(9);
            aside.arm();
            aside.write(200);
            same("a write by hand beside it", 2, aside.pass(5));
            orders(aside, 1, 2);
        });
        held("3. An erase is set aside by the clerk: if some order presses it, the foremost one that does is begun, "
                + "otherwise the erase goes on", () -> {
            BusyChip chip = obeyed("e3!2;t2;w0:01!5;t1");
            obeyed(chip, "w8:02!5;w16:03!6;w24:04!4;e0!9;w96:05!9;t1");
            works(chip, 1, 2, 3, 22, 2, 1);
            chip.pass(1);
            works(chip, 0, 1, 16, 1, 6, 0);
            chip.pass(2);
            works(chip, 0, 1, 8, 1, 5, 0);
            works(chip, 1, 2, 3, 22, 2, 1);
            chip.pass(2);
            works(chip, 0, 2, 3, 21, 2, 0);
            works(chip, 1, 0, -1, 0, -1, 0);
            orders(chip, 5, 6, 4);
            same("set aside once", 1, chip.count(14));
            chip.pass(1);
            same("and not again for less", 1, chip.count(14));
            BusyChip setting = obeyed("e3!2;t2;w0:01!5;w8:02!5;t2");
            setting.set(4, 4);
            setting.pass(1);
            works(setting, 0, 2, 3, 21, 2, 0);
            orders(setting, 2);
        });
        held("4. The foremost order is begun, if there is any", () -> {
            BusyChip chip = new BusyChip();
            same("there is none", 0, chip.pass(1));
            chip.set(0, 1);
            obeyed(chip, "w0:01!3;w8:02!4;w16:03!4;e1!0");
            int[] due = {8, 16, 0};
            for (int cell : due) {
                same("begun", 1, chip.pass(1));
                cells(chip, cell, cell / 8 + 1);
            }
            same("the last one", 24, chip.pass(30));
            orders(chip);
        });
    }

    private static void settings() {
        in("Settings");
        held("0: ticks for a cell, 1 to 9, at first 2", () -> {
            BusyChip chip = setting(0, 2, 9);
            writeWholly(chip, 0, 1);
            same("ticks for a cell", 1, chip.count(0));
        });
        held("1: ticks of an erase behind the first 4, 1 to 99, at first 20", () -> {
            BusyChip chip = setting(1, 20, 99);
            same("ticks of an erase", 5, chip.sector(0, 5));
        });
        held("2: erasures that a sector bears, 1 to 99, at first 30", () -> {
            BusyChip chip = setting(2, 30, 99);
            eraseWholly(chip, 0);
            same("it bears one", 0, chip.count(12));
            eraseWholly(chip, 0);
            same("and not two", 1, chip.count(12));
            BusyChip first = new BusyChip();
            first.set(1, 1);
            for (int i = 0; i < 30; i++) {
                eraseWholly(first, 0);
            }
            same("it bears 30", 0, first.count(12));
            eraseWholly(first, 0);
            same("and not 31", 128, first.cell(31, 1));
        });
        held("3: ticks of a change of the locks, 1 to 20, at first 5", () -> {
            BusyChip chip = setting(3, 5, 20);
            chip.arm();
            same("ticks", 1, chip.lock(1, 1));
        });
        held("4: by how much more urgent an order has to be, 1 to 9, at first 3", () -> {
            BusyChip chip = setting(4, 3, 9);
            obeyed(chip, "e0!4;t1;w255:01!5;t1");
            same("by 1", 1, chip.count(14));
        });
    }

    /** The bounds of a setting; it is 1 then. */
    private static BusyChip setting(int setting, int first, int most) {
        BusyChip chip = new BusyChip();
        same("at first", first, chip.setting(setting));
        argumentOutside(chip, 1, most, value -> chip.set(setting, value));
        same("the greatest one", first, chip.set(setting, most));
        same("it is set", most, chip.setting(setting));
        same("the least one", most, chip.set(setting, 1));
        same("it is set, too", 1, chip.setting(setting));
        return chip;
    }

    private static void post() {
        in("Promise 12");
        held("Posts an order: a write of the values that are loaded (nothing is loaded then), or an erase", () -> {
            BusyChip chip = new BusyChip();
            load(chip, 1, 2, 3, 4, 5, 6, 7, 8, 9, 10, 11, 12);
            chip.post(1, 6, 6);
            same("an erase leaves what is loaded", 12, chip.count(11));
            chip.post(0, 255, 7);
            same("a write does not", 0, chip.count(11));
            same("it has all values", 12, chip.order(0, 5));
            same("an erase has none", 0, chip.order(1, 5));
            load(chip, 99);
            same("the write takes 8 cells, and the erase", 16 + 24, chip.pass(200));
            cells(chip, 247, 255, 10, 11, 12, 5, 6, 7, 8);
            same("other values that are loaded by then", 1, chip.count(11));
        });
        held("Undoable", () -> {
            BusyChip chip = new BusyChip();
            chip.load(7);
            undone("a write", chip, () -> chip.post(0, 3, 9));
            undone("an erase", chip, () -> chip.post(1, 3, 9));
            same("the number is free again", 0, chip.post(1, 3, 9));
        });
        held("`kind`: 0 a write, 1 an erase", () -> {
            BusyChip chip = new BusyChip();
            post(chip, 7, 0, 1);
            same("0", 0, chip.order(0, 1));
            chip.post(1, 7, 9);
            same("1", 1, chip.order(0, 1));
        });
        held("`where`: the first cell, 0 to 255, or the sector, 0 to 7", () -> {
            BusyChip chip = new BusyChip();
            post(chip, 0, 9, 1);
            post(chip, 255, 8, 1);
            chip.post(1, 0, 7);
            chip.post(1, 7, 6);
            int[] due = {0, 255, 0, 7};
            for (int rank = 0; rank < 4; rank++) {
                same("rank " + rank, due[rank], chip.order(rank, 2));
            }
        });
        held("`urgency`: 0 to 9", () -> {
            BusyChip chip = new BusyChip();
            for (int urgency = 0; urgency <= 9; urgency++) {
                chip.post(1, 0, urgency);
                same("urgency", urgency, chip.order(0, 3));
            }
        });
        held("Returns the number of the order: orders are numbered from 0, as they are posted", () -> {
            BusyChip chip = new BusyChip();
            same("the first one", 0, chip.post(1, 0, 9));
            same("the next one", 1, chip.post(1, 0, 9));
            chip.withdraw(1);
            same("no number twice", 2, chip.post(1, 0, 9));
            obeyed(chip, "e1;t1;e2");
            same("behind those of a text", 5, chip.post(1, 0, 0));
            chip.cut();
            same("behind a cut", 6, chip.post(1, 0, 0));
            chip.pass(200);
            same("behind all that are done", 7, chip.post(1, 0, 0));
        });
    }

    private static void postRefused() {
        held("Throws `IllegalArgumentException` if kind or urgency is out of range", () -> {
            BusyChip chip = new BusyChip();
            chip.load(1);
            argumentOutside(chip, 0, 1, kind -> chip.post(kind, 0, 0));
            argumentOutside(chip, 0, 9, urgency -> chip.post(0, 0, urgency));
            argumentOutside(chip, 0, 9, urgency -> chip.post(1, 0, urgency));
            argument("ahead of the place", chip, () -> chip.post(2, 999, 0));
            argument("ahead of the place, by the urgency", chip, () -> chip.post(1, 8, 10));
            BusyChip full = obeyed("e0;e1;e2;e3;e4;e5;e6;e7;e0;e1");
            argument("ahead of 10 orders", full, () -> full.post(0, 0, 10));
        });
        held("Throws `IndexOutOfBoundsException` if there is no such cell or sector", () -> {
            BusyChip chip = new BusyChip();
            index("ahead of nothing loaded", chip, () -> chip.post(0, 256, 0));
            chip.load(1);
            indexOutside(chip, 0, 255, cell -> chip.post(0, cell, 0));
            indexOutside(chip, 0, 7, sector -> chip.post(1, sector, 0));
            index("a cell is no sector", chip, () -> chip.post(1, 255, 0));
            BusyChip full = obeyed("e0;e1;e2;e3;e4;e5;e6;e7;e0;e1");
            index("ahead of 10 orders", full, () -> full.post(1, -1, 0));
        });
        held("Throws `IllegalStateException` if 10 orders wait, or it is a write and nothing is loaded", () -> {
            BusyChip chip = obeyed("e0;e1;e2;e3;e4;e5;e6;e7;e0");
            state("nothing is loaded", chip, () -> chip.post(0, 0, 0));
            same("for an erase it need not be", 9, chip.post(1, 0, 0));
            state("10 orders wait, an erase", chip, () -> chip.post(1, 0, 9));
            state("both", chip, () -> chip.post(0, 0, 9));
            chip.load(1);
            state("10 orders wait, a write", chip, () -> chip.post(0, 0, 9));
            same("what is loaded stays", 1, chip.count(11));
            chip.withdraw(9);
            same("9 orders wait", 10, chip.post(0, 0, 9));
        });
    }

    private static void withdraw() {
        in("Promise 13");
        held("Takes an order back that waits", () -> {
            BusyChip chip = obeyed("e0!4;w0:01!9;e2!9;e3!0");
            chip.withdraw(1);
            orders(chip, 2, 0, 3);
            chip.withdraw(3);
            orders(chip, 2, 0);
            same("the others are done", 48, chip.pass(60));
            same("and it is not", 255, chip.cell(0, 0));
            BusyChip locked = new BusyChip();
            lockWholly(locked, 4, 0);
            locked.post(1, 0, 0);
            same("one for a locked sector", 0, locked.withdraw(0));
        });
        held("Undoable", () -> {
            BusyChip chip = obeyed("e0!4;w0:01!9;e2!9");
            undone("the foremost one", chip, () -> chip.withdraw(1));
            undone("the one in the middle", chip, () -> chip.withdraw(2));
            undone("the last one", chip, () -> chip.withdraw(0));
            orders(chip, 1, 2, 0);
            chip.pass(2);
            cells(chip, 0, 1);
        });
        held("`number`: the number of the order", () -> {
            BusyChip chip = obeyed("e7!0;e6!9");
            chip.withdraw(0);
            same("not its rank", 1, chip.order(0, 0));
        });
        held("Returns how many orders wait then", () -> {
            BusyChip chip = obeyed("e0;e1;e2;e3;e4;e5;e6;e7;e0;e1");
            for (int number = 0; number < 10; number++) {
                same("withdraw(" + number + ")", 9 - number, chip.withdraw(number));
            }
        });
        held("Throws `IndexOutOfBoundsException` if no order with this number waits", () -> {
            BusyChip none = new BusyChip();
            indexOutside(none, 0, 0, number -> none.withdraw(number));
            index("none was posted", none, () -> none.withdraw(0));
            BusyChip chip = obeyed("e0;e1;e2;t1");
            index("one that is begun", chip, () -> chip.withdraw(0));
            indexOutside(chip, 0, 2, number -> chip.withdraw(number));
            chip.withdraw(1);
            index("one that is withdrawn", chip, () -> chip.withdraw(1));
            chip.undo();
            same("one that waits again", 1, chip.withdraw(1));
        });
    }

    private static void pass() {
        in("Promise 14");
        held("Lets ticks pass", () -> {
            BusyChip chip = obeyed("e0;w40:01");
            BusyChip other = obeyed("e0;w40:01");
            chip.pass(26);
            for (int i = 0; i < 26; i++) {
                other.pass(1);
            }
            same("26 ticks", 26, chip.count(0));
            same("as one, as 26", chip.count(8), other.count(8));
            same("the erase", 1, other.sector(0, 0));
            cells(chip, 40, 1);
            cells(other, 40, 1);
        });
        held("Undoable, as one call", () -> {
            BusyChip chip = obeyed("e0!1;t3;w40:0102!9;w50:03!8");
            undone("pass(1)", chip, () -> chip.pass(1));
            undone("pass(3)", chip, () -> chip.pass(3));
            undone("pass(200)", chip, () -> chip.pass(200));
            BusyChip idle = new BusyChip();
            undone("though nothing goes on", idle, () -> idle.pass(1));
        });
        held("`ticks`: 1 to 200", () -> {
            BusyChip chip = new BusyChip();
            chip.pass(1);
            same("the fewest", 1, chip.count(0));
            chip.pass(200);
            same("the most", 201, chip.count(0));
        });
        held("Returns in how many of them some work went on", () -> {
            BusyChip chip = new BusyChip();
            same("none", 0, chip.pass(200));
            obeyed(chip, "e0;w40:01");
            same("each", 5, chip.pass(5));
            same("up to the last one", 21, chip.pass(21));
            same("none behind it", 0, chip.pass(1));
            obeyed(chip, "w40:01");
            same("the first two", 2, chip.pass(200));
            chip.arm();
            chip.lock(1, 1);
            same("a change of the locks, too", 5, chip.pass(6));
            chip.set(1, 99);
            chip.arm();
            chip.erase(0);
            same("103 ticks", 103, chip.pass(200));
            obeyed(chip, "e1;e2");
            same("all of 200", 200, chip.pass(200));
        });
        held("Throws `IllegalArgumentException` if ticks is out of range", () -> {
            BusyChip chip = obeyed("e0;t1");
            argumentOutside(chip, 1, 200, ticks -> chip.pass(ticks));
        });
    }

    private static void set() {
        in("Promise 15");
        held("Changes a setting", () -> {
            BusyChip chip = new BusyChip();
            int[] values = {9, 99, 98, 20, 8};
            for (int i = 0; i < 5; i++) {
                chip.set(i, values[i]);
            }
            for (int i = 0; i < 5; i++) {
                same("setting " + i, values[i], chip.setting(i));
            }
        });
        held("Undoable", () -> {
            BusyChip chip = new BusyChip();
            for (int i = 0; i < 5; i++) {
                int setting = i;
                undone("setting " + i, chip, () -> chip.set(setting, 7));
                undone("to what it is", chip, () -> chip.set(setting, chip.setting(setting)));
            }
        });
        held("`setting`: 0 to 4", () -> {
            BusyChip chip = new BusyChip();
            same("the first one", 2, chip.set(0, 3));
            same("the last one", 3, chip.set(4, 1));
            same("no other one", 20 + 30 + 5, chip.setting(1) + chip.setting(2) + chip.setting(3));
        });
        held("`value`: the new value", () -> {
            BusyChip chip = new BusyChip();
            chip.set(3, 20);
            same("it is", 20, chip.setting(3));
        });
        held("Returns the previous value", () -> {
            BusyChip chip = new BusyChip();
            same("the first one", 20, chip.set(1, 99));
            same("the next one", 99, chip.set(1, 1));
            same("the one after that", 1, chip.set(1, 1));
            same("the same", 1, chip.set(1, 50));
        });
        held("Throws `IndexOutOfBoundsException` if there is no such setting", () -> {
            BusyChip chip = new BusyChip();
            indexOutside(chip, 0, 4, setting -> chip.set(setting, 1));
            index("ahead of the value, below", chip, () -> chip.set(-1, 0));
            index("ahead of the value, above", chip, () -> chip.set(5, 1000));
        });
        held("Throws `IllegalArgumentException` if value is out of range", () -> {
            BusyChip chip = new BusyChip();
            int[] most = {9, 99, 99, 20, 9};
            for (int i = 0; i < 5; i++) {
                int setting = i;
                argumentOutside(chip, 1, most[i], value -> chip.set(setting, value));
            }
        });
    }
}
