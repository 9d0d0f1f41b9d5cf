/** Promises 23 to 30: looks. */
final class LookSentences extends Sentences {
    static void all() {
        read();
        cell();
        sector();
        sectorNumbers();
        work();
        order();
        orderNumbers();
        count();
        countsOfCells();
        countsOfWorks();
        setting();
        why();
    }

    private static void read() {
        in("Promise 23");
        held("Reads a cell, as a user of the chip can", () -> {
            BusyChip chip = new BusyChip();
            writeWholly(chip, 31, 9);
            same("what was written", 9, chip.read(31));
            chip.arm();
            chip.erase(0);
            chip.pass(2);
            chip.cut();
            same("also if it is unsure", 0, chip.read(15));
            lockWholly(chip, 4, 1);
            same("also if it is locked", 9, chip.read(31));
            savesNothing("read", chip, () -> chip.read(31));
        });
        held("`cell`: 0 to 255", () -> {
            BusyChip chip = new BusyChip();
            writeWholly(chip, 0, 1);
            writeWholly(chip, 255, 2);
            same("the first one", 1, chip.read(0));
            same("the last one", 2, chip.read(255));
        });
        held("Returns what it holds", () -> {
            BusyChip chip = new BusyChip();
            for (int cell = 0; cell < 24; cell++) {
                writeWholly(chip, cell, 10 * cell);
                same("cell " + cell, 10 * cell, chip.read(cell));
                same("the next one", 255, chip.read(cell + 1));
            }
        });
        held("Throws `IndexOutOfBoundsException` if there is no such cell", () -> {
            BusyChip chip = new BusyChip();
            indexOutside(chip, 0, 255, cell -> chip.read(cell));
            chip.arm();
            chip.erase(0);
            index("ahead of busy", chip, () -> chip.read(256));
        });
        held("Throws `IllegalStateException` if the chip is busy", () -> {
            BusyChip chip = new BusyChip();
            chip.arm();
            chip.lock(1, 1);
            state("a change of the locks", chip, () -> chip.read(0));
            chip.pass(4);
            state("its last tick", chip, () -> chip.read(255));
            chip.pass(1);
            same("at its end", 255, chip.read(255));
            obeyed(chip, "w0:00;t1");
            state("a write, another page", chip, () -> chip.read(200));
            chip.pass(1);
            same("at its end", 0, chip.read(0));
            obeyed(chip, "e0;t23");
            state("an erase, another sector", chip, () -> chip.read(200));
            chip.pass(1);
            same("at its end", 255, chip.read(0));
        });
        held("or the cell is in the page of a write", () -> {
            for (int page = 0; page < 32; page += 31) {
                BusyChip chip = new BusyChip();
                chip.load(1);
                chip.arm();
                chip.write(8 * page + 3);
                chip.suspend();
                int first = 8 * page;
                state("its first cell", chip, () -> chip.read(first));
                state("its last cell", chip, () -> chip.read(first + 7));
                same("a cell beside it", 255, chip.read(page == 0 ? 8 : 247));
                same("a cell of the same sector", 255, chip.read(page == 0 ? 31 : 224));
                chip.resume();
                chip.pass(2);
                same("behind it", 1, chip.read(first + 3));
            }
        });
        held("or in the sector of an erase, that is set aside", () -> {
            for (int sector = 0; sector < 8; sector++) {
                BusyChip chip = new BusyChip();
                chip.arm();
                chip.erase(sector);
                chip.suspend();
                int first = 32 * sector;
                state("its first cell", chip, () -> chip.read(first));
                state("its last cell", chip, () -> chip.read(first + 31));
                same("the cell behind it", 255, chip.read((first + 32) % 256));
                same("the cell before it", 255, chip.read((first + 255) % 256));
            }
            BusyChip clerks = obeyed("e3!0;t2;w0:01!9;t2");
            state("one that the clerk set aside", clerks, () -> clerks.read(96));
            same("what was written beside it", 1, clerks.read(0));
            clerks.cut();
            same("one that is lost is not", 0, clerks.read(96));
        });
    }

    private static void cell() {
        in("Promise 24");
        held("Tells something of a cell, whether the chip is busy or not", () -> {
            BusyChip chip = new BusyChip();
            load(chip, 1, 2);
            chip.arm();
            chip.write(7);
            for (int what = 0; what <= 3; what++) {
                same("busy, " + what, new int[] {255, 0, 0, -1}[what], chip.cell(7, what));
            }
            chip.pass(2);
            same("in the midst", 1, chip.cell(7, 0));
            chip.suspend();
            same("set aside", 1, chip.cell(7, 0));
            savesNothing("cell", chip, () -> chip.cell(7, 0));
        });
        held("`cell`: 0 to 255", () -> {
            BusyChip chip = new BusyChip();
            load(chip, 1, 2, 3, 4, 5, 6, 7, 8);
            same("the first one", 1, chip.cell(0, 3));
            same("the last one", 8, chip.cell(255, 3));
        });
        held("0: what it holds", () -> {
            BusyChip chip = emptied(0);
            writeWholly(chip, 32, 128);
            cells(chip, 30, 0, 0, 128, 255);
        });
        held("1: its stuck bits, as a mask", () -> {
            BusyChip chip = new BusyChip();
            chip.set(1, 1);
            chip.set(2, 6);
            for (int i = 1; i <= 8; i++) {
                eraseWholly(chip, 1);
            }
            same("the bit 7", 128, chip.cell(39, 1));
            same("the bit 0", 1, chip.cell(40, 1));
            same("none", 0, chip.cell(38, 1) + chip.cell(41, 1) + chip.cell(7, 1) + chip.cell(8, 1));
            writeWholly(chip, 38, 0);
            same("bits that have fallen are not stuck", 0, chip.cell(38, 1));
        });
        held("2: 1 if its page is unsure, otherwise 0", () -> {
            BusyChip chip = new BusyChip();
            chip.load(1);
            chip.arm();
            chip.write(255);
            chip.cut();
            chip.load(1);
            chip.arm();
            chip.write(0);
            chip.cut();
            int[] cells = {0, 7, 8, 247, 248, 255};
            int[] due = {1, 1, 0, 0, 1, 1};
            for (int i = 0; i < cells.length; i++) {
                same("cell " + cells[i], due[i], chip.cell(cells[i], 2));
            }
        });
        held("3: the value that it would get from what is loaded, if this was written with the first cell of its page "
                + "as the first cell", () -> {
            BusyChip chip = new BusyChip();
            load(chip, 11, 22, 33, 44, 55, 66, 77, 88);
            for (int cell = 0; cell < 256; cell++) {
                same("cell " + cell, 11 * (cell % 8 + 1), chip.cell(cell, 3));
            }
            chip.load(99);
            same("of two values the last one", 99, chip.cell(248, 3));
            same("of one value the only one", 22, chip.cell(249, 3));
            load(chip, 1, 2, 3);
            int[] due = {99, 1, 2, 3, 55, 66, 77, 88};
            for (int i = 0; i < 8; i++) {
                same("12 values, cell " + i, due[i], chip.cell(i, 3));
            }
            BusyChip fallen = emptied(0);
            fallen.load(255);
            same("the value, whatever the cell holds", 255, fallen.cell(0, 3));
        });
        held("NONE if it would get none", () -> {
            BusyChip chip = new BusyChip();
            for (int size = 0; size < 8; size++) {
                for (int cell = size; cell < 8; cell++) {
                    same(size + " values, cell " + cell, -1, chip.cell(cell, 3));
                }
                chip.load(0);
                same("0 is a value", 0, chip.cell(size, 3));
            }
        });
        held("Returns the number", () -> {
            BusyChip chip = emptied(7);
            load(chip, 6);
            int[] due = {0, 0, 1, 6};
            for (int what = 0; what <= 3; what++) {
                same("what " + what, due[what], chip.cell(224, what));
            }
        });
        held("Throws `IndexOutOfBoundsException` if there is no such cell", () -> {
            BusyChip chip = new BusyChip();
            indexOutside(chip, 0, 255, cell -> chip.cell(cell, 0));
            indexOutside(chip, 0, 255, cell -> chip.cell(cell, 3));
            index("ahead of what", chip, () -> chip.cell(-1, 4));
        });
        held("Throws `IllegalArgumentException` if what is not 0 to 3", () -> {
            BusyChip chip = new BusyChip();
            argumentOutside(chip, 0, 3, what -> chip.cell(0, what));
            argumentOutside(chip, 0, 3, what -> chip.cell(255, what));
        });
    }

    private static void sector() {
        in("Promise 25");
        held("Tells something of a sector", () -> {
            BusyChip chip = obeyed("e3;t3");
            int[] due = {0, 0, 64, 3, 0, 24, 0};
            for (int what = 0; what <= 6; what++) {
                same("also of a busy chip, " + what, due[what], chip.sector(3, what));
            }
            savesNothing("sector", chip, () -> chip.sector(3, 2));
        });
        held("`sector`: 0 to 7", () -> {
            BusyChip chip = new BusyChip();
            writeWholly(chip, 0, 254);
            writeWholly(chip, 255, 252);
            same("the first one", 255, chip.sector(0, 2));
            same("the last one", 254, chip.sector(7, 2));
        });
        held("Returns the number", () -> {
            BusyChip chip = emptied(5);
            lockWholly(chip, 4, 0);
            obeyed(chip, "e5;w160:00");
            int[] due = {0, 1, 0, 4, 4, 5, 2};
            for (int what = 0; what <= 6; what++) {
                same("what " + what, due[what], chip.sector(5, what));
            }
        });
        held("Throws `IndexOutOfBoundsException` if there is no such sector", () -> {
            BusyChip chip = new BusyChip();
            for (int what = 0; what <= 6; what++) {
                int one = what;
                indexOutside(chip, 0, 7, sector -> chip.sector(sector, one));
            }
            index("ahead of what", chip, () -> chip.sector(8, 7));
        });
        held("Throws `IllegalArgumentException` if what is not 0 to 6", () -> {
            BusyChip chip = new BusyChip();
            argumentOutside(chip, 0, 6, what -> chip.sector(0, what));
            argumentOutside(chip, 0, 6, what -> chip.sector(7, what));
        });
    }

    private static void sectorNumbers() {
        held("0: the erasures that it has had", () -> {
            BusyChip chip = new BusyChip();
            chip.set(1, 1);
            for (int n = 0; n < 5; n++) {
                same("erasures", n, chip.sector(7, 0));
                same("of another one", 0, chip.sector(6, 0));
                eraseWholly(chip, 7);
            }
            chip.arm();
            chip.erase(7);
            chip.cut();
            same("one that is lost is none", 5, chip.sector(7, 0));
        });
        held("1: 1 if it is locked, otherwise 0", () -> {
            BusyChip chip = new BusyChip();
            lockWholly(chip, 3, 1);
            for (int sector = 0; sector < 8; sector++) {
                same("sector " + sector, sector < 4 ? 0 : 1, chip.sector(sector, 1));
            }
        });
        held("2: its bits that are 1, how many", () -> {
            BusyChip chip = emptied(6);
            same("none", 0, chip.sector(6, 2));
            same("all, of the one before", 256, chip.sector(5, 2));
            same("all, of the one behind", 256, chip.sector(7, 2));
            writeWholly(chip, 224, 0x55);
            writeWholly(chip, 255, 0);
            same("of its first and last cell", 256 - 4 - 8, chip.sector(7, 2));
            chip.set(2, 1);
            eraseWholly(chip, 7);
            eraseWholly(chip, 7);
            same("a stuck bit is 0", 255, chip.sector(7, 2));
        });
        held("3: its pages in which some bit is 0", () -> {
            BusyChip chip = new BusyChip();
            same("none", 0, chip.sector(0, 3));
            int[] cells = {0, 15, 16, 31};
            for (int i = 0; i < 4; i++) {
                writeWholly(chip, cells[i], i % 2 == 0 ? 254 : 127);
                same("pages", i + 1, chip.sector(0, 3));
            }
            writeWholly(chip, 7, 0);
            same("each once", 4, chip.sector(0, 3));
            same("of the next one", 0, chip.sector(1, 3));
            chip.set(2, 1);
            eraseWholly(chip, 0);
            same("erased", 0, chip.sector(0, 3));
            eraseWholly(chip, 0);
            same("with a stuck bit", 1, chip.sector(0, 3));
        });
        held("4: its unsure pages, how many", () -> {
            BusyChip chip = new BusyChip();
            int[] cells = {224, 239, 240, 255};
            for (int i = 0; i < 4; i++) {
                chip.load(1);
                chip.arm();
                chip.write(cells[i]);
                chip.cut();
                same("pages", i + 1, chip.sector(7, 4));
                same("of the one before", 0, chip.sector(6, 4));
            }
            chip.load(1);
            chip.arm();
            chip.write(241);
            chip.cut();
            same("each once", 4, chip.sector(7, 4));
            eraseWholly(chip, 7);
            same("none", 0, chip.sector(7, 4));
        });
        held("5: the ticks that an erase of it takes, if it is begun now", () -> {
            BusyChip chip = new BusyChip();
            same("a new one", 24, chip.sector(0, 5));
            chip.set(1, 99);
            same("the greatest setting", 103, chip.sector(0, 5));
            chip.set(1, 1);
            same("the least setting", 5, chip.sector(0, 5));
            for (int n = 0; n < 9; n++) {
                int told = chip.sector(3, 5);
                same("with " + n + " erasures", 5 + n / 4, told);
                chip.arm();
                same("it does take them", told, chip.erase(3));
                chip.pass(told);
            }
            lockWholly(chip, 4, 0);
            same("also of a locked one", 7, chip.sector(3, 5));
        });
        held("6: the orders that wait for it, how many", () -> {
            BusyChip chip = obeyed("e3;w96:00;w127:00;w128:00;w95:00;e4");
            int[] due = {0, 0, 1, 3, 2, 0, 0, 0};
            for (int sector = 0; sector < 8; sector++) {
                same("sector " + sector, due[sector], chip.sector(sector, 6));
            }
            chip.pass(1);
            same("one that is begun waits no more", 2, chip.sector(3, 6));
            BusyChip full = obeyed("e7;e7;e7;e7;e7;w224:00;w255:00;w239:00;w240:00;e7");
            same("10", 10, full.sector(7, 6));
        });
    }

    private static void work() {
        in("Promise 26");
        held("Tells something of a work", () -> {
            BusyChip chip = obeyed("e6!4;t2;w96:09!8;t1");
            works(chip, 0, 1, 96, 1, 8, 0);
            works(chip, 1, 2, 6, 22, 4, 1);
            savesNothing("work", chip, () -> chip.work(0, 0));
        });
        held("`aside`: 1 for the work that is set aside, 0 for the one that is under way", () -> {
            BusyChip chip = new BusyChip();
            chip.arm();
            chip.erase(6);
            works(chip, 0, 2, 6, 24, -1, 0);
            works(chip, 1, 0, -1, 0, -1, 0);
            chip.suspend();
            works(chip, 0, 0, -1, 0, -1, 0);
            works(chip, 1, 2, 6, 24, -1, 0);
        });
        held("0: its kind: 0 there is none, 1 a write, 2 an erase, 3 a change of the locks", () -> {
            BusyChip chip = new BusyChip();
            same("none", 0, chip.work(0, 0));
            chip.arm();
            chip.lock(0, 1);
            same("a change of the locks", 3, chip.work(0, 0));
            chip.pass(5);
            same("none again", 0, chip.work(0, 0));
            obeyed(chip, "e0;w32:00;t1");
            same("an erase", 2, chip.work(0, 0));
            chip.pass(24);
            same("a write", 1, chip.work(0, 0));
            chip.suspend();
            same("set aside", 1, chip.work(1, 0));
        });
        held("1: the first cell of a write, the sector of an erase, the level of a change of the locks, "
                + "NONE without a work", () -> {
            BusyChip chip = new BusyChip();
            same("without a work", -1, chip.work(0, 1));
            same("without one aside", -1, chip.work(1, 1));
            load(chip, 1, 2);
            chip.arm();
            chip.write(255);
            same("the last cell", 255, chip.work(0, 1));
            chip.pass(3);
            same("the first cell of the write, though another one is written", 255, chip.work(0, 1));
            chip.cut();
            chip.arm();
            chip.erase(0);
            same("the first sector", 0, chip.work(0, 1));
            chip.cut();
            for (int level = 0; level <= 4; level++) {
                chip.arm();
                chip.lock(level, 0);
                same("the level", level, chip.work(0, 1));
                chip.cut();
                same("lost", -1, chip.work(0, 1));
            }
        });
        held("2: the ticks of it that are left, 0 without one", () -> {
            BusyChip chip = new BusyChip();
            same("without one", 0, chip.work(0, 2));
            chip.set(0, 9);
            load(chip, new int[12]);
            chip.arm();
            chip.write(0);
            for (int left = 72; left > 0; left--) {
                same("left", left, chip.work(0, 2));
                chip.pass(1);
            }
            same("at its end", 0, chip.work(0, 2));
            same("none aside", 0, chip.work(1, 2));
        });
        held("3: the urgency of its order, NONE if it was begun by hand, or there is no work", () -> {
            for (int urgency = 0; urgency <= 9; urgency++) {
                BusyChip chip = new BusyChip();
                same("no work", -1, chip.work(0, 3));
                chip.post(1, 0, urgency);
                chip.pass(1);
                same("an order's", urgency, chip.work(0, 3));
                chip.suspend();
                same("set aside", urgency, chip.work(1, 3));
                same("none is under way", -1, chip.work(0, 3));
                chip.resume();
                same("it goes on", urgency, chip.work(0, 3));
                chip.cut();
                chip.arm();
                chip.erase(0);
                same("by hand", -1, chip.work(0, 3));
                chip.suspend();
                same("by hand, set aside", -1, chip.work(1, 3));
            }
        });
        held("4: 1 if the clerk set it aside, otherwise 0", () -> {
            BusyChip chip = new BusyChip();
            same("no work", 0, chip.work(1, 4) + chip.work(0, 4));
            obeyed(chip, "e6!0;t2;w96:09!8;t1");
            same("by the clerk", 1, chip.work(1, 4));
            same("the write is not set aside", 0, chip.work(0, 4));
            chip.pass(2);
            same("it goes on", 0, chip.work(0, 4));
            chip.suspend();
            same("by hand", 0, chip.work(1, 4));
        });
        held("Returns the number", () -> {
            BusyChip chip = obeyed("w77:0102!3;t1");
            works(chip, 0, 1, 77, 3, 3, 0);
        });
        held("Throws `IllegalArgumentException` if aside is not 0 or 1, or what is not 0 to 4", () -> {
            BusyChip chip = new BusyChip();
            argumentOutside(chip, 0, 1, aside -> chip.work(aside, 0));
            argumentOutside(chip, 0, 1, aside -> chip.work(aside, 4));
            argumentOutside(chip, 0, 4, what -> chip.work(0, what));
            argumentOutside(chip, 0, 4, what -> chip.work(1, what));
            argument("both", chip, () -> chip.work(2, 5));
        });
    }

    private static void order() {
        in("Promise 27");
        held("Tells something of an order that waits, in the order in which they are ahead of one another", () -> {
            BusyChip chip = obeyed("e7!3;w0:00!4;e6!4;w8:00!9;e5!0");
            orders(chip, 3, 1, 2, 0, 4);
            savesNothing("order", chip, () -> chip.order(0, 0));
        });
        held("`rank`: 0 for the foremost one, locked sectors or not", () -> {
            BusyChip chip = new BusyChip();
            lockWholly(chip, 1, 1);
            obeyed(chip, "e7!8;e0!7;w255:00!9");
            orders(chip, 2, 0, 1);
            chip.pass(1);
            orders(chip, 2, 0);
        });
        held("Returns the number", () -> {
            BusyChip chip = new BusyChip();
            lockWholly(chip, 4, 0);
            obeyed(chip, "e7!8;t3;w255:0102!9");
            int[][] due = {{1, 0, 255, 9, 0, 2}, {0, 1, 7, 8, 3, 0}};
            for (int rank = 0; rank < 2; rank++) {
                for (int what = 0; what <= 5; what++) {
                    same("rank " + rank + ", what " + what, due[rank][what], chip.order(rank, what));
                }
            }
        });
        held("Throws `IndexOutOfBoundsException` if there is no such rank", () -> {
            BusyChip chip = new BusyChip();
            index("none waits", chip, () -> chip.order(0, 0));
            index("none waits, and no such what", chip, () -> chip.order(0, 6));
            for (int size = 1; size <= 10; size++) {
                chip.post(1, 0, 0);
                int rank = size;
                same("the last one", size - 1, chip.order(size - 1, 0));
                index("the one behind it", chip, () -> chip.order(rank, 0));
            }
            indexOutside(chip, 0, 9, rank -> chip.order(rank, 5));
            index("ahead of what", chip, () -> chip.order(-1, -1));
        });
        held("Throws `IllegalArgumentException` if what is not 0 to 5", () -> {
            BusyChip chip = obeyed("e7!8;e0!7");
            argumentOutside(chip, 0, 5, what -> chip.order(0, what));
            argumentOutside(chip, 0, 5, what -> chip.order(1, what));
        });
    }

    private static void orderNumbers() {
        held("0: its number", () -> {
            BusyChip chip = obeyed("e7!8;e0!9;e1!7");
            chip.withdraw(0);
            chip.post(1, 3, 9);
            orders(chip, 1, 3, 2);
        });
        held("1: its kind", () -> {
            BusyChip chip = obeyed("e7!8;w7:00!9");
            same("a write", 0, chip.order(0, 1));
            same("an erase", 1, chip.order(1, 1));
        });
        held("2: its first cell, or its sector", () -> {
            BusyChip chip = obeyed("w255:0001!9;w0:00!8;e7!7;e0!6");
            int[] due = {255, 0, 7, 0};
            for (int rank = 0; rank < 4; rank++) {
                same("rank " + rank, due[rank], chip.order(rank, 2));
            }
        });
        held("3: its urgency", () -> {
            BusyChip chip = obeyed("e0!0;e1!9;e2;w0:00");
            int[] due = {9, 5, 5, 0};
            for (int rank = 0; rank < 4; rank++) {
                same("rank " + rank, due[rank], chip.order(rank, 3));
            }
        });
        held("4: how many ticks it has waited", () -> {
            BusyChip chip = new BusyChip();
            chip.pass(200);
            chip.post(1, 0, 0);
            chip.post(1, 1, 0);
            same("none yet", 0, chip.order(0, 4));
            chip.pass(1);
            same("one", 1, chip.order(0, 4));
            chip.post(1, 2, 0);
            chip.pass(3);
            same("four", 4, chip.order(0, 4));
            same("three", 3, chip.order(1, 4));
            chip.keep();
            chip.pass(5);
            same("nine", 9, chip.order(0, 4));
            chip.undo();
            same("four again", 4, chip.order(0, 4));
            chip.withdraw(1);
            chip.withdraw(2);
            chip.pass(7);
            chip.post(1, 0, 0);
            same("another one", 0, chip.order(0, 4));
            chip.goBack();
            same("as it was kept", 4, chip.order(0, 4));
            same("as that was kept", 3, chip.order(1, 4));
        });
        held("5: how many values it has, 0 for an erase", () -> {
            BusyChip chip = new BusyChip();
            for (int size = 1; size <= 12; size++) {
                load(chip, new int[size]);
                chip.post(0, 0, 0);
                same("a write", size, chip.order(0, 5));
                chip.withdraw(size - 1);
            }
            chip.load(1);
            chip.post(1, 0, 0);
            same("an erase", 0, chip.order(0, 5));
        });
    }

    private static void count() {
        in("Promise 28");
        held("Returns a number", () -> {
            BusyChip chip = new BusyChip();
            for (int what = 0; what <= 15; what++) {
                same("count(" + what + ")", what == 4 ? 1 : what == 5 ? 2048 : 0, chip.count(what));
            }
            savesNothing("count", chip, () -> chip.count(0));
        });
        held("Returns the number", () -> {
            BusyChip chip = obeyed("e6!0;t2;w96:0902!8;t3;e7");
            lockedAndLost(chip);
            int[] due = {5 + 5, 1, 1, 2, 0, 2048 - 128 - 6, 0, 0, 128 + 6, 2, 1, 2, 0, 5, 1, 6};
            for (int what = 0; what <= 15; what++) {
                same("count(" + what + ")", due[what], chip.count(what));
            }
        });
        held("0: ticks so far", () -> {
            BusyChip chip = new BusyChip();
            chip.pass(1);
            chip.pass(200);
            obeyed(chip, "t99;e0;t1");
            same("whether a work goes on or not", 301, chip.count(0));
            chip.cut();
            same("also without power", 301, chip.count(0));
        });
        held("1: 1 if the chip is armed, otherwise 0", () -> {
            BusyChip chip = new BusyChip();
            same("not armed", 0, chip.count(1));
            chip.arm();
            same("armed", 1, chip.count(1));
            chip.erase(0);
            same("not armed any more", 0, chip.count(1));
        });
        held("2: 1 if the locks are frozen, otherwise 0", () -> {
            BusyChip chip = new BusyChip();
            same("not frozen", 0, chip.count(2));
            chip.freeze();
            same("frozen", 1, chip.count(2));
            chip.cut();
            same("not frozen any more", 0, chip.count(2));
        });
        held("3: the level of the locks", () -> {
            BusyChip chip = new BusyChip();
            for (int level = 4; level >= 0; level--) {
                lockWholly(chip, level, 1);
                same("level", level, chip.count(3));
            }
        });
        held("4: their side", () -> {
            BusyChip chip = new BusyChip();
            same("the top", 1, chip.count(4));
            lockWholly(chip, 0, 0);
            same("the bottom", 0, chip.count(4));
            lockWholly(chip, 0, 1);
            same("the top again", 1, chip.count(4));
        });
        held("10: orders that wait", () -> {
            BusyChip chip = new BusyChip();
            for (int size = 1; size <= 10; size++) {
                chip.post(1, 0, 0);
                same("orders", size, chip.count(10));
            }
            chip.withdraw(3);
            same("one less", 9, chip.count(10));
            chip.pass(1);
            same("one is begun", 8, chip.count(10));
        });
        held("11: values that are loaded", () -> {
            BusyChip chip = new BusyChip();
            load(chip, new int[12]);
            same("12", 12, chip.count(11));
            chip.post(0, 0, 0);
            same("none", 0, chip.count(11));
        });
        held("14: how often a work was set aside so far", () -> {
            BusyChip chip = obeyed("e6!0;t2;w96:09!8;t3");
            same("by the clerk", 1, chip.count(14));
            for (int i = 2; i <= 4; i++) {
                chip.suspend();
                same("by hand", i, chip.count(14));
                chip.resume();
                same("going on counts not", i, chip.count(14));
            }
            chip.cut();
            same("nor does a cut", 4, chip.count(14));
        });
        held("15: saved states", () -> {
            BusyChip chip = new BusyChip();
            for (int i = 1; i <= 8; i++) {
                chip.arm();
                same("saved states", Math.min(i, 6), chip.count(15));
            }
            chip.undo();
            same("one less", 5, chip.count(15));
        });
        held("Throws `IllegalArgumentException` if what is not 0 to 15", () -> {
            BusyChip chip = new BusyChip();
            argumentOutside(chip, 0, 15, what -> chip.count(what));
        });
    }

    /** Both works that go on are lost; then there are locks, and the chip is made ready. */
    private static void lockedAndLost(BusyChip chip) {
        chip.cut();
        lockWholly(chip, 2, 0);
        chip.freeze();
        chip.arm();
        load(chip, 3, 4);
    }

    private static void countsOfCells() {
        held("5: bits of all cells that are 1", () -> {
            BusyChip chip = emptied(0, 1, 2, 3, 4, 5, 6, 7);
            same("none", 0, chip.count(5));
            for (int sector = 0; sector < 8; sector++) {
                eraseWholly(chip, sector);
                same("bits", 256 * sector + 256, chip.count(5));
            }
            writeWholly(chip, 0, 254);
            writeWholly(chip, 255, 127);
            same("but for two", 2046, chip.count(5));
        });
        held("6: erasures of all sectors", () -> {
            BusyChip chip = new BusyChip();
            chip.set(1, 1);
            for (int i = 1; i <= 17; i++) {
                eraseWholly(chip, i % 8);
                same("erasures", i, chip.count(6));
            }
            chip.arm();
            chip.erase(0);
            chip.pass(4);
            chip.cut();
            same("not one that is lost", 17, chip.count(6));
        });
        held("8: bits that fell from 1 to 0 so far, by writes and in the first 4 ticks of erases "
                + "(not those that become stuck at the end of one)", () -> {
            BusyChip chip = new BusyChip();
            chip.set(1, 1);
            chip.set(2, 1);
            writeWholly(chip, 0, 0x0f);
            same("a write", 4, chip.count(8));
            writeWholly(chip, 0, 0x3c);
            same("bits that are 0 already fall not again", 6, chip.count(8));
            chip.arm();
            chip.erase(0);
            int[] due = {64, 128, 192, 256, 256};
            for (int i = 0; i < 5; i++) {
                chip.pass(1);
                same("tick " + (i + 1), due[i], chip.count(8));
            }
            eraseWholly(chip, 0);
            same("a bit that becomes stuck", 256 + 256, chip.count(8));
            eraseWholly(chip, 0);
            same("one that is stuck", 256 + 256 + 255, chip.count(8));
            load(chip, 0, 0);
            chip.arm();
            chip.write(100);
            chip.pass(3);
            chip.cut();
            same("a write that is lost, as far as it got", 767 + 8, chip.count(8));
            chip.undo();
            chip.undo();
            same("undone", 767, chip.count(8));
        });
        held("12: stuck bits", () -> {
            BusyChip chip = new BusyChip();
            chip.set(1, 1);
            chip.set(2, 1);
            for (int sector = 0; sector < 8; sector += 7) {
                for (int n = 1; n <= 3; n++) {
                    eraseWholly(chip, sector);
                    same("sector " + sector + " with " + n, n - 1 + (sector == 7 ? 2 : 0), chip.count(12));
                }
            }
            for (int i = 0; i < 3; i++) {
                chip.undo();
            }
            same("undone", 3, chip.count(12));
            BusyChip first = new BusyChip();
            first.set(1, 1);
            first.set(2, 31);
            for (int n = 1; n <= 32; n++) {
                same("none yet", 0, first.count(12));
                eraseWholly(first, 0);
            }
            same("one of the cell 0", 1, first.count(12));
        });
        held("13: unsure pages", () -> {
            BusyChip chip = emptied(7, 0);
            same("8", 8, chip.count(13));
            chip.load(1);
            chip.arm();
            chip.write(40);
            chip.cut();
            same("9", 9, chip.count(13));
            eraseWholly(chip, 0);
            same("5", 5, chip.count(13));
            eraseWholly(chip, 1);
            same("4", 4, chip.count(13));
            chip.load(1);
            chip.arm();
            chip.write(255);
            chip.cut();
            same("a page that is unsure already", 4, chip.count(13));
        });
    }

    private static void countsOfWorks() {
        held("7: writes that went to their end so far", () -> {
            BusyChip chip = new BusyChip();
            load(chip, 1, 2);
            chip.arm();
            chip.write(0);
            chip.pass(3);
            same("not before the end", 0, chip.count(7));
            chip.pass(1);
            same("by hand", 1, chip.count(7));
            obeyed(chip, "w8:00;w16:00;t4");
            same("by the clerk", 3, chip.count(7));
            obeyed(chip, "w24:00;t1");
            chip.cut();
            same("not one that is lost", 3, chip.count(7));
            eraseWholly(chip, 0);
            lockWholly(chip, 1, 1);
            same("no other works", 3, chip.count(7));
        });
        held("9: works that were lost so far", () -> {
            BusyChip chip = obeyed("e6!0;t2;w96:09!8;t1");
            chip.cut();
            same("two", 2, chip.count(9));
            chip.cut();
            same("no more", 2, chip.count(9));
            chip.arm();
            chip.lock(1, 1);
            chip.cut();
            same("a change of the locks", 3, chip.count(9));
            chip.post(1, 0, 0);
            chip.withdraw(2);
            same("orders are none", 3, chip.count(9));
            chip.undo();
            chip.undo();
            chip.undo();
            same("undone", 2, chip.count(9));
        });
    }

    private static void setting() {
        in("Promise 29");
        held("Returns a setting", () -> {
            BusyChip chip = new BusyChip();
            int[] first = {2, 20, 30, 5, 3};
            for (int i = 0; i < 5; i++) {
                same("setting(" + i + ")", first[i], chip.setting(i));
            }
            savesNothing("setting", chip, () -> chip.setting(0));
        });
        held("`setting`: 0 to 4", () -> {
            BusyChip chip = new BusyChip();
            same("the first one", 2, chip.setting(0));
            same("the last one", 3, chip.setting(4));
        });
        held("Returns its value", () -> {
            BusyChip chip = new BusyChip();
            int[] most = {9, 99, 99, 20, 9};
            for (int i = 0; i < 5; i++) {
                chip.set(i, most[i]);
                same("the greatest", most[i], chip.setting(i));
                chip.set(i, 1);
                same("the least", 1, chip.setting(i));
            }
        });
        held("Throws `IndexOutOfBoundsException` if there is no such setting", () -> {
            BusyChip chip = new BusyChip();
            indexOutside(chip, 0, 4, setting -> chip.setting(setting));
        });
    }

    private static void why() {
        in("Promise 30");
        held("Tells why a work can not be begun by hand", () -> {
            BusyChip chip = new BusyChip();
            for (int kind = 1; kind <= 3; kind++) {
                same("not armed", 2, chip.why(kind, 0));
            }
            state("and so it is", chip, () -> chip.erase(0));
            savesNothing("why", chip, () -> chip.why(1, 0));
        });
        held("`kind`: 1 a write of what is loaded, 2 an erase, 3 a change of the locks", () -> {
            BusyChip chip = new BusyChip();
            chip.freeze();
            chip.arm();
            same("a write: nothing is loaded", 5, chip.why(1, 0));
            same("an erase", 0, chip.why(2, 0));
            same("a change of the locks: frozen", 3, chip.why(3, 0));
        });
        held("`where`: the first cell, 0 to 255, the sector, 0 to 7, or the level, 0 to 4", () -> {
            BusyChip chip = new BusyChip();
            lockWholly(chip, 1, 0);
            chip.arm();
            chip.load(1);
            same("the first cell, locked", 3, chip.why(1, 0));
            same("the last locked cell", 3, chip.why(1, 31));
            same("the first free cell", 0, chip.why(1, 32));
            same("the last cell", 0, chip.why(1, 255));
            same("the first sector, locked", 3, chip.why(2, 0));
            same("the first free sector", 0, chip.why(2, 1));
            same("the last sector", 0, chip.why(2, 7));
            same("the lowest level", 0, chip.why(3, 0));
            same("the highest level", 0, chip.why(3, 4));
        });
        held("Returns 0 if it can be begun, otherwise 1 to 5", () -> {
            BusyChip chip = new BusyChip();
            chip.arm();
            same("5", 5, chip.why(1, 255));
            chip.load(1);
            same("0", 0, chip.why(1, 255));
            chip.erase(7);
            same("1", 1, chip.why(1, 255));
            chip.suspend();
            same("2", 2, chip.why(1, 255));
            chip.arm();
            same("4", 4, chip.why(1, 255));
            chip.cut();
            lockWholly(chip, 1, 1);
            chip.arm();
            same("3", 3, chip.why(1, 255));
            same("0 again, for an erase", 0, chip.why(2, 6));
            same("it can", 24, chip.erase(6));
        });
        held("Throws `IllegalArgumentException` if kind is not 1 to 3", () -> {
            BusyChip chip = new BusyChip();
            argumentOutside(chip, 1, 3, kind -> chip.why(kind, 0));
            argument("ahead of the place", chip, () -> chip.why(0, -1));
            argument("ahead of the place, above", chip, () -> chip.why(4, 256));
        });
        held("Throws `IndexOutOfBoundsException` if there is no such cell, sector or level", () -> {
            BusyChip chip = new BusyChip();
            indexOutside(chip, 0, 255, cell -> chip.why(1, cell));
            indexOutside(chip, 0, 7, sector -> chip.why(2, sector));
            indexOutside(chip, 0, 4, level -> chip.why(3, level));
        });
    }
}
