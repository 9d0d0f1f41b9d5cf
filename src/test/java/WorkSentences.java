/** The terms of the chip, works, locks, setting aside, power, and why a work can not be begun. */
final class WorkSentences extends Sentences {
    private static final int WRITE = 1;
    private static final int ERASE = 2;
    private static final int LOCKS = 3;

    static void all() {
        numbers();
        chip();
        works();
        writes();
        erases();
        wear();
        locksChange();
        locks();
        settingAside();
        power();
        why();
    }

    /** A chip that has begun a work of this kind by hand. */
    private static BusyChip begun(int kind) {
        BusyChip chip = new BusyChip();
        chip.arm();
        if (kind == WRITE) {
            chip.load(1);
            chip.write(0);
        } else if (kind == ERASE) {
            chip.erase(0);
        } else {
            chip.lock(1, 0);
        }
        return chip;
    }

    private static void numbers() {
        in("What it is");
        held("An object is used for at most 512 calls after it has been made", () -> {
            BusyChip chip = new BusyChip();
            for (int call = 1; call <= 511; call++) {
                same("call " + call, 0, chip.pass(200));
            }
            same("the 512th call", 102200, chip.count(0));
        });
        in("Terms");
        held("All numbers are integers, but for two shares", () -> {
            BusyChip chip = new BusyChip();
            writeWholly(chip, 0, 127);
            isTrue("one share", chip.onesShare() == 0.99951171875);
            eraseWholly(chip, 0);
            isTrue("the other one", chip.meanWear() == 0.125f);
        });
        held("divisions are rounded down", () -> {
            BusyChip chip = new BusyChip();
            chip.set(1, 1);
            int[] due = {5, 5, 5, 5, 6, 6, 6, 6, 7, 7};
            for (int ticks : due) {
                same("ticks with " + chip.sector(6, 0) + " erasures", ticks, chip.sector(6, 5));
                eraseWholly(chip, 6);
            }
        });
    }

    private static void chip() {
        in("The chip");
        held("The chip has 256 cells, numbered from 0", () -> {
            BusyChip chip = new BusyChip();
            writeWholly(chip, 0, 1);
            writeWholly(chip, 255, 2);
            same("the first cell", 1, chip.read(0));
            same("the last cell", 2, chip.read(255));
            index("none below", chip, () -> chip.read(-1));
            index("none above", chip, () -> chip.read(256));
        });
        held("The cell c is in the page c / 8", () -> {
            BusyChip chip = new BusyChip();
            chip.set(0, 1);
            for (int page = 0; page < 32; page++) {
                load(chip, 1, 2);
                chip.arm();
                chip.write(8 * page + 7);
                chip.pass(2);
                same("the last cell of the page " + page, 1, chip.cell(8 * page + 7, 0));
                same("the first cell of the page " + page, 2, chip.cell(8 * page, 0));
            }
        });
        held("and in the sector c / 32", () -> {
            BusyChip chip = new BusyChip();
            for (int sector = 0; sector < 8; sector++) {
                post(chip, 32 * sector, 0, 9);
                same("with the first cell of the sector " + sector, 1, chip.sector(sector, 6));
                post(chip, 32 * sector + 31, 0, 9);
                same("with the last cell of the sector " + sector, 2, chip.sector(sector, 6));
                chip.withdraw(2 * sector);
                chip.withdraw(2 * sector + 1);
            }
        });
        held("so there are 32 pages of 8 cells, and 8 sectors of 4 pages", () -> {
            BusyChip chip = new BusyChip();
            for (int sector = 0; sector < 8; sector++) {
                chip.arm();
                chip.erase(sector);
                chip.cut();
                same("pages of the sector " + sector, 4, chip.sector(sector, 4));
                same("pages", 4 * sector + 4, chip.count(13));
            }
        });
        held("A cell holds 8 bits, told as a number from 0 to 255", () -> {
            BusyChip chip = new BusyChip();
            for (int bit = 0; bit < 8; bit++) {
                writeWholly(chip, bit, 1 << bit);
                same("the bit " + bit + " alone", 1 << bit, chip.read(bit));
            }
            writeWholly(chip, 8, 0);
            same("no bit", 0, chip.read(8));
            writeWholly(chip, 9, 255);
            same("all bits", 255, chip.read(9));
        });
        held("at first each cell holds 255", () -> {
            BusyChip chip = new BusyChip();
            for (int cell = 0; cell < 256; cell++) {
                same("cell " + cell, 255, chip.read(cell));
            }
        });
        held("A bit can be stuck", () -> same("the bit 2 of the cell 2", 4, worn().cell(2, 1)));
        held("it is 0 then, and stays so", () -> {
            BusyChip chip = worn();
            same("0", 251, chip.cell(2, 0));
            writeWholly(chip, 2, 255);
            same("behind a write", 251, chip.cell(2, 0));
            for (int i = 0; i < 3; i++) {
                eraseWholly(chip, 0);
                same("behind an erase", 251, chip.cell(2, 0));
                same("stuck", 4, chip.cell(2, 1));
            }
            chip.set(2, 99);
            eraseWholly(chip, 0);
            same("also if the sector bears more by now", 251, chip.cell(2, 0));
            chip.cut();
            same("also without power", 251, chip.cell(2, 0));
        });
        held("At first none is", () -> {
            BusyChip chip = new BusyChip();
            same("stuck bits", 0, chip.count(12));
            for (int cell = 0; cell < 256; cell++) {
                same("cell " + cell, 0, chip.cell(cell, 1));
            }
        });
    }

    /** A chip with a sector 0 that bears 1 erasure and has had 2. */
    private static BusyChip worn() {
        BusyChip chip = new BusyChip();
        chip.set(1, 1);
        chip.set(2, 1);
        eraseWholly(chip, 0);
        eraseWholly(chip, 0);
        return chip;
    }

    private static void works() {
        in("Works");
        held("A work is a write, an erase, or a change of the locks", () -> {
            for (int kind = WRITE; kind <= LOCKS; kind++) {
                same("kind", kind, begun(kind).work(0, 0));
                same("busy", 1, begun(kind).why(ERASE, 7));
            }
        });
        held("At most one work is under way at a time", () -> {
            for (int kind = WRITE; kind <= LOCKS; kind++) {
                BusyChip chip = begun(kind);
                chip.load(2);
                long before = chip.work(0, 2);
                state("write", chip, () -> chip.write(100));
                state("erase", chip, () -> chip.erase(5));
                state("lock", chip, () -> chip.lock(1, 1));
                post(chip, 100, 9);
                chip.pass(1);
                same("the order waits", 1, chip.count(10));
                same("the same work goes on", before - 1, chip.work(0, 2));
            }
            BusyChip chip = obeyed("e1;e2;w200:07!0");
            chip.arm();
            chip.load(1);
            chip.pass(1);
            same("the clerk begins one", 2, chip.count(10));
            state("and no hand another one, though armed", chip, () -> chip.write(100));
        });
        held("as long as one is, the chip is busy", () -> {
            for (int kind = WRITE; kind <= LOCKS; kind++) {
                BusyChip chip = begun(kind);
                for (int left = chip.work(0, 2); left > 0; left--) {
                    same("with " + left + " ticks left", 1, chip.why(WRITE, 200));
                    state("arm()", chip, () -> chip.arm());
                    chip.pass(1);
                }
                same("at its end", 2, chip.why(WRITE, 200));
            }
        });
        held("A work that is under way goes on by one tick in each tick that passes", () -> {
            for (int kind = WRITE; kind <= LOCKS; kind++) {
                BusyChip chip = begun(kind);
                for (int left = chip.work(0, 2); left > 0; left--) {
                    same("left", left, chip.work(0, 2));
                    same("pass(1)", 1, chip.pass(1));
                }
            }
            BusyChip chip = begun(ERASE);
            same("several ticks at once", 17, chip.pass(17));
            same("are as many", 7, chip.work(0, 2));
        });
        held("when its last tick ends, it is not under way any more", () -> {
            for (int kind = WRITE; kind <= LOCKS; kind++) {
                BusyChip chip = begun(kind);
                int ticks = chip.work(0, 2);
                chip.pass(ticks - 1);
                works(chip, 0, kind, kind == LOCKS ? 1 : 0, 1, -1, 0);
                same("its last tick", 1, chip.pass(1));
                works(chip, 0, 0, -1, 0, -1, 0);
                same("no tick behind it", 0, chip.pass(1));
            }
        });
    }

    private static void writes() {
        held("A write has a first cell and a row of values, 0 to 255 each", () -> {
            BusyChip chip = new BusyChip();
            writeWholly(chip, 64, 255, 0, 1, 128);
            cells(chip, 63, 255, 255, 0, 1, 128, 255);
            argument("a value below", chip, () -> chip.load(-1));
            argument("a value above", chip, () -> chip.load(256));
        });
        held("The first value is for the first cell, each further one for the next cell of the same page, "
                + "and behind the last cell of a page comes its first one", () -> {
            for (int first = 0; first < 8; first++) {
                BusyChip chip = new BusyChip();
                writeWholly(chip, 248 + first, 0, 1, 2, 3, 4, 5, 6, 7);
                for (int i = 0; i < 8; i++) {
                    same("cell " + i + " from " + first, (i - first + 8) % 8, chip.read(248 + i));
                }
                same("no cell of the page before", 255, chip.read(247));
                same("none of the first page", 255, chip.read(0));
            }
        });
        held("of several values for one cell the last one counts", () -> {
            BusyChip chip = new BusyChip();
            load(chip, 0, 2, 3, 4, 5, 6, 7, 8, 255);
            chip.arm();
            same("9 values for 8 cells", 16, chip.write(5));
            chip.pass(16);
            cells(chip, 0, 4, 5, 6, 7, 8, 255, 2, 3, 255);
            BusyChip most = new BusyChip();
            load(most, 1, 2, 3, 4, 5, 6, 7, 8, 9, 10, 11, 12);
            most.arm();
            same("12 values for 8 cells", 16, most.write(8));
            most.pass(2);
            cells(most, 8, 9, 255);
            most.pass(14);
            cells(most, 7, 255, 9, 10, 11, 12, 5, 6, 7, 8, 255);
        });
        held("For each of these cells the write takes setting 0 ticks (as it was when the write began)", () -> {
            for (int pace = 1; pace <= 9; pace++) {
                for (int size = 1; size <= 12; size++) {
                    BusyChip chip = new BusyChip();
                    chip.set(0, pace);
                    load(chip, new int[size]);
                    chip.arm();
                    same(size + " values", pace * Math.min(size, 8), chip.write(9));
                    chip.set(0, 10 - pace);
                    same(size + " values, left", pace * Math.min(size, 8), chip.work(0, 2));
                }
            }
            BusyChip chip = new BusyChip();
            chip.set(0, 9);
            post(chip, 0, 5, 1, 2);
            chip.set(0, 3);
            chip.pass(1);
            same("an order that waits has not begun", 5, chip.work(0, 2));
            chip.set(0, 9);
            chip.pass(5);
            same("one that is begun has", 0, chip.work(0, 0));
        });
        held("at the end of the first so many ticks the first cell becomes what it holds AND its value, bit by bit", () -> {
            BusyChip chip = new BusyChip();
            writeWholly(chip, 77, 0b11001100);
            chip.set(0, 9);
            load(chip, 0b10101010);
            chip.arm();
            chip.write(77);
            chip.pass(8);
            same("before", 0b11001100, chip.cell(77, 0));
            chip.pass(1);
            same("at the end of the last of them", 0b10001000, chip.cell(77, 0));
            writeWholly(chip, 77, 0b01110111);
            same("no bit in common", 0, chip.cell(77, 0));
            writeWholly(chip, 77, 255);
            same("no bit rises", 0, chip.cell(77, 0));
        });
        held("then the next one, and so on, round the page", () -> {
            BusyChip chip = new BusyChip();
            chip.set(0, 3);
            load(chip, 1, 2, 3, 4);
            chip.arm();
            chip.write(14);
            int[][] due = {{255, 255, 1, 255}, {255, 255, 1, 2}, {3, 255, 1, 2}, {3, 4, 1, 2}};
            int[] before = {255, 255, 255, 255};
            for (int[] now : due) {
                chip.pass(2);
                fourCells(chip, before);
                chip.pass(1);
                fourCells(chip, now);
                before = now;
            }
            same("it has ended", 0, chip.work(0, 0));
        });
    }

    private static void fourCells(BusyChip chip, int[] due) {
        cells(chip, 8, due[0], due[1], 255);
        cells(chip, 13, 255, due[2], due[3], 255);
    }

    private static void erases() {
        held("An erase of a sector takes 4 ticks, then setting 1 ticks, and one more for each 4 erasures "
                + "that the sector had so far (all as it was when the erase began)", () -> {
            BusyChip chip = new BusyChip();
            chip.arm();
            chip.set(1, 1);
            same("the least setting", 5, chip.erase(0));
            chip.cut();
            chip.arm();
            chip.set(1, 99);
            same("the greatest setting", 103, chip.erase(0));
            chip.set(1, 1);
            same("the setting as it was", 103, chip.work(0, 2));
            same("to the end", 103, chip.pass(200));
            BusyChip order = new BusyChip();
            order.set(1, 9);
            order.post(1, 3, 0);
            order.set(1, 2);
            order.pass(1);
            same("an order, as it is when it is begun", 5, order.work(0, 2));
            BusyChip worn = new BusyChip();
            worn.set(1, 1);
            for (int n = 0; n < 41; n++) {
                worn.arm();
                same("behind " + n + " erasures", 5 + n / 4, worn.erase(4));
                worn.pass(5 + n / 4);
            }
            same("no other sector", 5, worn.sector(3, 5));
        });
        held("At the end of each of its first 4 ticks all cells of the next page of the sector become 0", () -> {
            for (int sector = 0; sector < 8; sector += 7) {
                BusyChip chip = new BusyChip();
                chip.arm();
                chip.erase(sector);
                same("before the first tick", 256, chip.sector(sector, 2));
                for (int page = 0; page < 4; page++) {
                    chip.pass(1);
                    same("pages behind tick " + (page + 1), page + 1, chip.sector(sector, 3));
                    cells(chip, 32 * sector + 8 * page, 0, 0, 0, 0, 0, 0, 0, 0);
                }
                chip.pass(1);
                same("they stay 0", 0, chip.sector(sector, 2));
                same("no other sector", 7 * 256, chip.count(5));
            }
        });
        held("At the end of its last tick all cells of the sector become 255, but for bits that are stuck", () -> {
            BusyChip chip = worn();
            writeWholly(chip, 31, 0);
            writeWholly(chip, 32, 0);
            chip.set(2, 99);
            chip.arm();
            chip.erase(0);
            chip.pass(4);
            same("behind the first 4 ticks", 0, chip.sector(0, 2));
            chip.pass(1);
            same("at the end of the last one", 255, chip.sector(0, 2));
            cells(chip, 0, 255, 255, 251, 255);
            cells(chip, 31, 255, 0);
        });
        held("the sector has had one erasure more then", () -> {
            BusyChip chip = new BusyChip();
            chip.arm();
            chip.erase(7);
            chip.pass(23);
            same("before the last tick", 0, chip.sector(7, 0));
            chip.pass(1);
            same("behind it", 1, chip.sector(7, 0));
            same("no other sector", 1, chip.count(6));
            chip.arm();
            chip.erase(7);
            chip.pass(23);
            chip.cut();
            same("not of one that is lost", 1, chip.sector(7, 0));
        });
    }

    private static void wear() {
        held("If it has had more than setting 2 (as it is then), one bit becomes stuck, and 0", () -> {
            BusyChip chip = new BusyChip();
            chip.set(1, 1);
            chip.set(2, 3);
            for (int i = 0; i < 3; i++) {
                eraseWholly(chip, 5);
                same("as many as it bears, or fewer", 0, chip.count(12));
            }
            eraseWholly(chip, 5);
            same("one more", 1, chip.count(12));
            same("the bit 4 of the cell 4", 16, chip.cell(164, 1));
            same("it is 0", 239, chip.cell(164, 0));
            eraseWholly(chip, 5);
            same("one each time", 2, chip.count(12));
            chip.arm();
            chip.erase(5);
            chip.set(2, 6);
            chip.pass(200);
            same("setting 2 as it is then: greater by now", 2, chip.count(12));
            chip.arm();
            chip.erase(5);
            chip.set(2, 99);
            chip.pass(3);
            chip.set(2, 6);
            chip.pass(200);
            same("setting 2 as it is then: smaller by now", 3, chip.count(12));
            eraseWholly(chip, 4);
            same("another sector has its own erasures", 3, chip.count(12));
        });
        held("with n erasures the bit n modulo 8 of the cell n modulo 32 of the sector "
                + "(the bit 0 counts 1, the bit 7 counts 128)", () -> {
            BusyChip chip = new BusyChip();
            chip.set(1, 1);
            chip.set(2, 1);
            for (int n = 1; n <= 35; n++) {
                eraseWholly(chip, 7);
                int cell = 224 + n % 32;
                same("the cell with " + n, n == 1 ? 0 : 1 << n % 8, chip.cell(cell, 1));
                same("what it holds", n == 1 ? 255 : 255 - (1 << n % 8), chip.cell(cell, 0));
                same("stuck bits, with 34 and 35 such that are stuck already", Math.min(n - 1, 32), chip.count(12));
            }
            same("7 erasures: the bit 7 of the cell 7", 128, chip.cell(231, 1));
            same("8 erasures: the bit 0 of the cell 8", 1, chip.cell(232, 1));
            same("31 erasures: the last cell", 128, chip.cell(255, 1));
            same("32 erasures: the first one", 1, chip.cell(224, 1));
            same("33 erasures: the second one", 2, chip.cell(225, 1));
        });
    }

    private static void locksChange() {
        held("A change of the locks takes setting 3 ticks (as it was when it began)", () -> {
            BusyChip chip = new BusyChip();
            chip.set(3, 1);
            chip.arm();
            same("the least setting", 1, chip.lock(1, 1));
            same("a single tick", 1, chip.pass(5));
            chip.set(3, 20);
            chip.arm();
            same("the greatest setting", 20, chip.lock(4, 0));
            chip.set(3, 2);
            same("the setting as it was", 20, chip.pass(30));
        });
        held("at the end of the last one the locks are the new ones", () -> {
            BusyChip chip = new BusyChip();
            lockWholly(chip, 2, 0);
            chip.arm();
            chip.lock(1, 1);
            chip.pass(4);
            same("before: the level", 2, chip.count(3));
            same("before: the side", 0, chip.count(4));
            same("before: the sector 0", 1, chip.sector(0, 1));
            same("before: the sector 7", 0, chip.sector(7, 1));
            chip.pass(1);
            same("then: the level", 1, chip.count(3));
            same("then: the side", 1, chip.count(4));
            same("then: the sector 0", 0, chip.sector(0, 1));
            same("then: the sector 7", 1, chip.sector(7, 1));
        });
    }

    private static void locks() {
        in("Locks");
        held("The locks have a level, 0 to 4, at first 0, and a side, the top (1) or the bottom (0), at first the top", () -> {
            BusyChip chip = new BusyChip();
            same("level", 0, chip.count(3));
            same("side", 1, chip.count(4));
            for (int level = 4; level >= 0; level--) {
                lockWholly(chip, level, level % 2);
                same("a level", level, chip.count(3));
                same("a side", level % 2, chip.count(4));
            }
            chip.arm();
            argumentOutside(chip, 0, 4, level -> chip.lock(level, 1));
            argumentOutside(chip, 0, 1, side -> chip.lock(1, side));
        });
        held("With the level 0 no sector is locked", () -> {
            BusyChip chip = new BusyChip();
            for (int side = 0; side <= 1; side++) {
                lockWholly(chip, 0, side);
                locked(chip, 0, 0, 0, 0, 0, 0, 0, 0);
            }
        });
        held("with the levels 1 to 4 there are 1, 2, 4 and 8 locked sectors: those with the greatest numbers, "
                + "if the side is the top", () -> {
            BusyChip chip = new BusyChip();
            lockWholly(chip, 1, 1);
            locked(chip, 0, 0, 0, 0, 0, 0, 0, 1);
            lockWholly(chip, 2, 1);
            locked(chip, 0, 0, 0, 0, 0, 0, 1, 1);
            lockWholly(chip, 3, 1);
            locked(chip, 0, 0, 0, 0, 1, 1, 1, 1);
            lockWholly(chip, 4, 1);
            locked(chip, 1, 1, 1, 1, 1, 1, 1, 1);
        });
        held("otherwise those with the least ones", () -> {
            BusyChip chip = new BusyChip();
            lockWholly(chip, 1, 0);
            locked(chip, 1, 0, 0, 0, 0, 0, 0, 0);
            lockWholly(chip, 2, 0);
            locked(chip, 1, 1, 0, 0, 0, 0, 0, 0);
            lockWholly(chip, 3, 0);
            locked(chip, 1, 1, 1, 1, 0, 0, 0, 0);
            lockWholly(chip, 4, 0);
            locked(chip, 1, 1, 1, 1, 1, 1, 1, 1);
        });
        held("The locks can be frozen", () -> {
            BusyChip chip = new BusyChip();
            chip.freeze();
            same("frozen", 1, chip.count(2));
        });
        held("then they can not be changed until the power is cut", () -> {
            BusyChip chip = new BusyChip();
            lockWholly(chip, 1, 0);
            chip.freeze();
            chip.arm();
            state("to others", chip, () -> chip.lock(3, 1));
            state("to none", chip, () -> chip.lock(0, 1));
            state("to the same ones", chip, () -> chip.lock(1, 0));
            chip.pass(200);
            eraseWholly(chip, 1);
            chip.arm();
            state("time does not help", chip, () -> chip.lock(0, 1));
            chip.cut();
            chip.arm();
            same("without power it does", 5, chip.lock(0, 1));
        });
    }

    private static void locked(BusyChip chip, int... due) {
        chip.arm();
        chip.load(1);
        for (int sector = 0; sector < 8; sector++) {
            same("sector " + sector, due[sector], chip.sector(sector, 1));
            same("its first cell", 3 * due[sector], chip.why(WRITE, 32 * sector));
            same("its last cell", 3 * due[sector], chip.why(WRITE, 32 * sector + 31));
            same("an erase of it", 3 * due[sector], chip.why(ERASE, sector));
        }
        chip.unload();
    }

    private static void settingAside() {
        in("Setting aside");
        held("A write or an erase that is under way can be set aside", () -> {
            for (int kind = WRITE; kind <= ERASE; kind++) {
                BusyChip chip = begun(kind);
                chip.suspend();
                same("set aside", kind, chip.work(1, 0));
            }
            BusyChip chip = begun(LOCKS);
            state("a change of the locks can not", chip, () -> chip.suspend());
        });
        held("then it is not under way, and stays as it is until it goes on", () -> {
            BusyChip chip = new BusyChip();
            load(chip, 1, 2);
            chip.arm();
            chip.write(7);
            chip.pass(3);
            chip.suspend();
            works(chip, 0, 0, -1, 0, -1, 0);
            chip.set(0, 9);
            same("no tick of it", 0, chip.pass(200));
            works(chip, 1, 1, 7, 1, -1, 0);
            cells(chip, 0, 255);
            chip.resume();
            chip.pass(1);
            cells(chip, 0, 2);
            BusyChip erase = begun(ERASE);
            erase.pass(2);
            erase.suspend();
            erase.set(1, 1);
            same("no tick of an erase", 0, erase.pass(200));
            works(erase, 1, 2, 0, 22, -1, 0);
            cells(erase, 15, 0, 255);
            erase.resume();
            erase.pass(1);
            cells(erase, 15, 0, 0, 0, 0, 0, 0, 0, 0, 0, 255);
            same("the rest", 21, erase.pass(200));
        });
        held("At most one work is set aside at a time", () -> {
            BusyChip chip = begun(ERASE);
            chip.suspend();
            chip.arm();
            chip.load(1);
            chip.write(99);
            state("one by hand is", chip, () -> chip.suspend());
            BusyChip clerks = obeyed("e0!1;t2;w99:01!9;t1");
            same("one by the clerk is", 1, clerks.work(1, 4));
            state("a hand sets no second one aside", clerks, () -> clerks.suspend());
        });
        held("As long as a write is set aside, no other work can begin", () -> {
            BusyChip chip = begun(WRITE);
            chip.suspend();
            chip.load(1);
            chip.arm();
            state("a write to its page", chip, () -> chip.write(1));
            state("a write elsewhere", chip, () -> chip.write(255));
            state("an erase of its sector", chip, () -> chip.erase(0));
            state("an erase elsewhere", chip, () -> chip.erase(7));
            state("a change of the locks", chip, () -> chip.lock(0, 1));
            obeyed(chip, "w255:00!9;e7!9");
            same("nor by the clerk", 0, chip.pass(50));
            same("orders wait on", 2, chip.count(10));
            chip.resume();
            same("until it has ended", 28, chip.pass(50));
        });
        held("as long as an erase is set aside, only writes in other sectors can", () -> {
            BusyChip chip = new BusyChip();
            chip.arm();
            chip.erase(3);
            chip.suspend();
            chip.load(1);
            chip.arm();
            state("the first cell of its sector", chip, () -> chip.write(96));
            state("the last cell of its sector", chip, () -> chip.write(127));
            state("an erase of its sector", chip, () -> chip.erase(3));
            state("an erase of another one", chip, () -> chip.erase(4));
            state("a change of the locks", chip, () -> chip.lock(1, 1));
            same("the cell before its sector", 2, chip.write(95));
            chip.pass(2);
            chip.load(1);
            chip.arm();
            same("the cell behind its sector", 2, chip.write(128));
            chip.pass(2);
            cells(chip, 95, 1, 255);
            cells(chip, 127, 255, 1);
        });
    }

    private static void power() {
        in("Power");
        held("When the power is cut, the works that are under way, and set aside, are lost", () -> {
            for (int kind = WRITE; kind <= LOCKS; kind++) {
                BusyChip chip = begun(kind);
                same("cut()", 1, chip.cut());
                works(chip, 0, 0, -1, 0, -1, 0);
                same("nothing goes on", 0, chip.pass(50));
                same("no bit has fallen", 2048, chip.count(5));
                same("the locks are the old ones", 0, chip.count(3));
            }
            BusyChip chip = begun(ERASE);
            chip.suspend();
            chip.load(1);
            chip.arm();
            chip.write(32);
            same("both", 2, chip.cut());
            works(chip, 1, 0, -1, 0, -1, 0);
            state("nothing to go on", chip, () -> chip.resume());
        });
        held("and all cells stay as they are", () -> {
            BusyChip chip = worn();
            writeWholly(chip, 250, 15);
            chip.arm();
            chip.erase(1);
            chip.pass(2);
            chip.suspend();
            load(chip, 240, 240);
            chip.arm();
            chip.write(250);
            chip.pass(3);
            int[] before = new int[96];
            for (int i = 0; i < 96; i++) {
                before[i] = chip.cell((224 + i) % 256, 0);
            }
            long ones = chip.count(5);
            chip.cut();
            for (int i = 0; i < 96; i++) {
                same("a cell of the sectors 7, 0 and 1, " + i, before[i], chip.cell((224 + i) % 256, 0));
            }
            same("bits that are 1", ones, chip.count(5));
        });
        held("The page of a write that is lost is unsure then", () -> {
            for (int page = 0; page < 32; page++) {
                BusyChip chip = new BusyChip();
                load(chip, 1, 2);
                chip.arm();
                chip.write(8 * page + 7);
                same("not as long as it is under way", 0, chip.count(13));
                chip.cut();
                same("one page", 1, chip.count(13));
                same("its first cell", 1, chip.cell(8 * page, 2));
                same("its last cell", 1, chip.cell(8 * page + 7, 2));
            }
            BusyChip chip = begun(WRITE);
            chip.suspend();
            chip.cut();
            same("one that was set aside", 1, chip.cell(7, 2));
            same("no other page", 0, chip.cell(8, 2));
        });
        held("and so are all pages of the sector of an erase that is lost", () -> {
            for (int sector = 0; sector < 8; sector++) {
                BusyChip chip = new BusyChip();
                chip.arm();
                chip.erase(sector);
                chip.pass(23);
                same("not as long as it is under way", 0, chip.count(13));
                chip.cut();
                same("its pages", 4, chip.sector(sector, 4));
                same("no other pages", 4, chip.count(13));
            }
            BusyChip chip = begun(LOCKS);
            chip.cut();
            same("none of a change of the locks", 0, chip.count(13));
        });
        held("a page is sure again when its sector has been erased to the end", () -> {
            BusyChip chip = begun(WRITE);
            chip.cut();
            eraseWholly(chip, 1);
            same("not by another sector", 1, chip.cell(0, 2));
            writeWholly(chip, 0, 0, 0, 0, 0, 0, 0, 0, 0);
            same("not by a write", 1, chip.cell(0, 2));
            chip.arm();
            chip.erase(0);
            chip.pass(23);
            same("not before the end", 1, chip.cell(0, 2));
            chip.pass(1);
            same("at the end", 0, chip.cell(0, 2));
            chip.arm();
            chip.erase(0);
            chip.cut();
            obeyed(chip, "e0;t24");
            same("by the clerk, too", 0, chip.count(13));
        });
        held("The chip is not armed then, the locks are not frozen, and nothing is loaded", () -> {
            BusyChip chip = new BusyChip();
            chip.arm();
            chip.freeze();
            load(chip, 1, 2, 3, 4, 5, 6, 7, 8, 9, 10, 11, 12);
            chip.cut();
            same("armed", 0, chip.count(1));
            same("frozen", 0, chip.count(2));
            same("loaded", 0, chip.count(11));
            same("none for a cell", -1, chip.cell(0, 3));
        });
        held("The locks and waiting orders stay", () -> {
            BusyChip chip = new BusyChip();
            lockWholly(chip, 3, 0);
            post(chip, 255, 8, 1, 2);
            chip.post(1, 0, 9);
            chip.cut();
            same("level", 3, chip.count(3));
            same("side", 0, chip.count(4));
            orders(chip, 1, 0);
            same("a write's values", 2, chip.order(1, 5));
            chip.pass(4);
            cells(chip, 248, 2);
            cells(chip, 255, 1);
        });
    }

    private static void why() {
        in("Why a work can not be begun");
        held("By hand, the first of these that is so: 1: the chip is busy", () -> {
            BusyChip chip = busyWithAll();
            same("a write, locked", 1, chip.why(WRITE, 0));
            same("a write beside the erase", 1, chip.why(WRITE, 224));
            same("an erase, locked", 1, chip.why(ERASE, 0));
            same("an erase", 1, chip.why(ERASE, 7));
            same("frozen locks", 1, chip.why(LOCKS, 0));
            BusyChip clerks = obeyed("e0;t1");
            clerks.load(1);
            same("a work of the clerk", 1, clerks.why(WRITE, 255));
        });
        held("2: it is not armed", () -> {
            BusyChip chip = busyWithAll();
            chip.pass(2);
            same("a write, locked", 2, chip.why(WRITE, 0));
            same("a write beside the erase", 2, chip.why(WRITE, 224));
            same("an erase, locked", 2, chip.why(ERASE, 0));
            same("an erase", 2, chip.why(ERASE, 7));
            same("frozen locks", 2, chip.why(LOCKS, 0));
        });
        held("3: the sector is locked, or, for a change of the locks, they are frozen", () -> {
            BusyChip chip = busyWithAll();
            chip.pass(2);
            chip.arm();
            same("a write, the last locked cell", 3, chip.why(WRITE, 127));
            same("an erase, the last locked sector", 3, chip.why(ERASE, 3));
            same("frozen locks, before what is set aside", 3, chip.why(LOCKS, 4));
            BusyChip other = new BusyChip();
            other.freeze();
            other.arm();
            other.load(1);
            same("frozen locks hinder no write", 0, other.why(WRITE, 0));
            same("and no erase", 0, other.why(ERASE, 0));
            other.cut();
            lockWholly(other, 4, 1);
            other.arm();
            same("locked sectors hinder no change of the locks", 0, other.why(LOCKS, 0));
        });
        held("4: a work that is set aside does not allow it", () -> {
            BusyChip chip = busyWithAll();
            chip.pass(2);
            chip.arm();
            same("a write beside the erase, nothing loaded", 4, chip.why(WRITE, 224));
            same("an erase of another sector", 4, chip.why(ERASE, 4));
            same("an erase of its sector", 4, chip.why(ERASE, 7));
            BusyChip write = begun(WRITE);
            write.suspend();
            write.arm();
            same("beside a write, nothing loaded", 4, write.why(WRITE, 255));
            same("a change of the locks", 4, write.why(LOCKS, 0));
        });
        held("5: it is a write, and nothing is loaded", () -> {
            BusyChip chip = busyWithAll();
            chip.pass(2);
            chip.arm();
            same("a write in another sector", 5, chip.why(WRITE, 223));
            chip.load(0);
            same("something is loaded", 0, chip.why(WRITE, 223));
            BusyChip other = new BusyChip();
            other.arm();
            same("no erase", 0, other.why(ERASE, 0));
            same("no change of the locks", 0, other.why(LOCKS, 4));
        });
        held("As a work is begun by hand, the chip is not armed any more", () -> {
            for (int kind = WRITE; kind <= LOCKS; kind++) {
                BusyChip chip = begun(kind);
                same("armed", 0, chip.count(1));
                chip.pass(200);
                same("nor at its end", 0, chip.count(1));
            }
            BusyChip chip = new BusyChip();
            chip.arm();
            state("a write that can not be begun", chip, () -> chip.write(0));
            obeyed(chip, "e0;t24");
            same("the clerk takes it not away", 1, chip.count(1));
            chip.erase(1);
            chip.suspend();
            chip.arm();
            chip.resume();
            same("nor does what goes on", 1, chip.count(1));
        });
    }

    /** Busy, not armed, half of it locked, frozen, an erase set aside, nothing loaded. */
    private static BusyChip busyWithAll() {
        BusyChip chip = new BusyChip();
        lockWholly(chip, 3, 0);
        chip.freeze();
        chip.arm();
        chip.erase(7);
        chip.suspend();
        chip.load(1);
        chip.arm();
        chip.write(128);
        return chip;
    }
}
