import java.util.function.Supplier;

/** Promises 31 to 38: what would be. */
final class PlanSentences extends Sentences {
    static void all() {
        misses();
        fits();
        freeIn();
        freeInBounds();
        leastWorn();
        commonest();
        onesShare();
        meanWear();
        digest();
        digestOfState();
        digestOfPlans();
    }

    private static void misses() {
        in("Promise 31");
        held("Tells how many cells would not hold their values, if what is loaded was written to the end, "
                + "with the cells as they are now", () -> {
            BusyChip chip = new BusyChip();
            same("nothing is loaded", 0, chip.misses(0));
            writeWholly(chip, 3, 0x0f);
            load(chip, 0x0f, 0x1f);
            same("bits that are 1", 0, chip.misses(3));
            same("a bit that has fallen", 1, chip.misses(2));
            chip.arm();
            chip.erase(0);
            same("before the erase", 1, chip.misses(2));
            chip.pass(1);
            same("in its midst", 2, chip.misses(2));
            same("another page of it", 0, chip.misses(8));
            chip.pass(23);
            same("behind it", 0, chip.misses(2));
            savesNothing("misses", chip, () -> chip.misses(2));
        });
        held("`cell`: the first cell, 0 to 255", () -> {
            BusyChip chip = emptied(0);
            chip.load(1);
            same("the first one", 1, chip.misses(0));
            same("the last one of the sector", 1, chip.misses(31));
            same("the next one", 0, chip.misses(32));
            same("the last one", 0, chip.misses(255));
        });
        held("Returns how many of the cells that are written would hold something else than their value", () -> {
            for (int size = 0; size <= 12; size++) {
                BusyChip chip = emptied(7);
                for (int i = 0; i < size; i++) {
                    chip.load(255);
                }
                same("each cell once, with " + size + " values", Math.min(size, 8), chip.misses(255));
                same("none elsewhere", 0, chip.misses(0));
            }
            BusyChip zeros = emptied(7);
            load(zeros, new int[8]);
            same("0 can always be written", 0, zeros.misses(250));
            zeros.load(1);
            same("of two values the last one: the ninth", 1, zeros.misses(255));
            zeros.unload();
            load(zeros, 1, 0, 0, 0, 0, 0, 0, 0, 0);
            same("and not the first one", 0, zeros.misses(255));
            BusyChip round = new BusyChip();
            writeWholly(round, 248, 0);
            load(round, 1, 2);
            same("round the page", 1, round.misses(255));
            same("not on to the page behind", 0, round.misses(247));
            BusyChip stuck = new BusyChip();
            stuck.set(2, 1);
            eraseWholly(stuck, 0);
            eraseWholly(stuck, 0);
            stuck.load(4);
            same("a stuck bit", 1, stuck.misses(2));
            stuck.unload();
            stuck.load(251);
            same("all bits but it", 0, stuck.misses(2));
        });
        held("Throws `IndexOutOfBoundsException` if there is no such cell", () -> {
            BusyChip chip = new BusyChip();
            indexOutside(chip, 0, 255, cell -> chip.misses(cell));
            chip.load(1);
            indexOutside(chip, 0, 255, cell -> chip.misses(cell));
        });
    }

    private static void fits() {
        in("Promise 32");
        held("Finds where what is loaded can be written without erasing", () -> {
            BusyChip chip = emptied(0, 1, 3);
            load(chip, 0x70, 0x07);
            same("the first cell of the sector 2", 64, chip.fits());
            chip.arm();
            chip.write(64);
            chip.pass(2);
            cells(chip, 64, 0x70, 0x07);
            load(chip, 0x70, 0x07);
            same("the same values again", 64, chip.fits());
            chip.unload();
            load(chip, 0x71, 0x07);
            same("other ones", 66, chip.fits());
            savesNothing("fits", chip, () -> chip.fits());
        });
        held("Returns the lowest cell, in a sector that is not locked, for which misses() is 0", () -> {
            BusyChip chip = new BusyChip();
            same("nothing is loaded", 0, chip.fits());
            load(chip, new int[12]);
            lockWholly(chip, 1, 0);
            same("the sector 0 is locked", 32, chip.fits());
            lockWholly(chip, 3, 0);
            same("half of them are", 128, chip.fits());
            lockWholly(chip, 3, 1);
            same("the other half is", 0, chip.fits());
            BusyChip round = new BusyChip();
            round.set(0, 1);
            writeWholly(round, 0, 7, 0, 0, 0, 0, 0, 0, 255);
            load(round, 255, 7);
            same("round the page", 7, round.fits());
            BusyChip busy = emptied(0);
            busy.load(1);
            busy.arm();
            busy.erase(0);
            same("whether the chip is busy or not", 32, busy.fits());
            busy.pass(5);
            same("as the cells are", 0, busy.fits());
        });
        held("NONE if there is none", () -> {
            BusyChip chip = emptied(0, 1, 2, 3, 4, 5, 6, 7);
            same("nothing is loaded", 0, chip.fits());
            chip.load(1);
            same("all bits are 0", -1, chip.fits());
            eraseWholly(chip, 7);
            same("a sector is erased", 224, chip.fits());
            chip.unload();
            for (int page = 28; page < 31; page++) {
                writeWholly(chip, 8 * page, new int[8]);
            }
            writeWholly(chip, 248, new int[7]);
            chip.load(1);
            same("the last cell alone", 255, chip.fits());
            chip.load(0);
            same("and the cell behind it, round the page", 255, chip.fits());
            chip.load(1);
            same("two cells behind it", -1, chip.fits());
            BusyChip locked = new BusyChip();
            lockWholly(locked, 4, 1);
            same("all are locked", -1, locked.fits());
            BusyChip half = emptied(4, 5, 6, 7);
            lockWholly(half, 3, 0);
            half.load(128);
            same("all that are not locked are full", -1, half.fits());
        });
    }

    private static void freeIn() {
        in("Promise 33");
        held("Tells how long all orders take", () -> {
            BusyChip chip = obeyed("e0;w100:0102;e7!9;w0:00!0");
            same("24, 4, 24, 2", 54, chip.freeIn());
            for (int left = 54; left > 0; left--) {
                same("left", left, chip.freeIn());
                chip.pass(1);
            }
            same("all are done", 0, chip.count(10) + chip.freeIn());
            same("in so many ticks", 54, chip.count(0));
            savesNothing("freeIn", chip, () -> chip.freeIn());
        });
        held("Returns behind how many ticks, if they pass, the chip is not busy", () -> {
            BusyChip chip = new BusyChip();
            chip.arm();
            chip.erase(0);
            same("an erase", 24, chip.freeIn());
            chip.pass(23);
            same("its last tick", 1, chip.freeIn());
            chip.pass(1);
            same("at its end", 0, chip.freeIn());
            chip.arm();
            chip.lock(1, 1);
            same("a change of the locks", 5, chip.freeIn());
            chip.cut();
            same("lost", 0, chip.freeIn());
        });
        held("the clerk has set nothing aside", () -> {
            BusyChip chip = obeyed("e3!0;t2;w0:01!9;t1");
            same("a write beside it", 1 + 22, chip.freeIn());
            chip.pass(1);
            same("not busy, but one is set aside", 22, chip.freeIn());
            chip.pass(1);
            same("it goes on", 21, chip.freeIn());
            chip.suspend();
            same("set aside by hand", 0, chip.freeIn());
            chip.resume();
            obeyed(chip, "w0:01!3;w32:01!2");
            same("one that will be set aside", 2 + 21 + 2, chip.freeIn());
        });
        held("and no order waits but for locked sectors", () -> {
            BusyChip chip = new BusyChip();
            lockWholly(chip, 1, 1);
            obeyed(chip, "e7;w255:00;w224:00");
            same("locked ones", 0, chip.freeIn());
            chip.post(1, 6, 0);
            same("and another one", 24, chip.freeIn());
            chip.pass(24);
            chip.arm();
            chip.lock(0, 1);
            same("that get free", 5 + 24 + 2 + 2, chip.freeIn());
            chip.pass(5);
            chip.arm();
            chip.lock(4, 0);
            same("that get locked", 5, chip.freeIn());
        });
        held("for the first time", () -> {
            BusyChip chip = obeyed("e0;e1");
            same("not between two orders", 48, chip.freeIn());
            chip.pass(24);
            same("an order waits", 24, chip.freeIn());
            BusyChip later = new BusyChip();
            later.arm();
            later.lock(1, 0);
            later.post(1, 0, 0);
            same("though the locks could change later", 5, later.freeIn());
        });
    }

    private static void freeInBounds() {
        held("0 if it is so now", () -> {
            BusyChip chip = new BusyChip();
            same("a new chip", 0, chip.freeIn());
            chip.arm();
            chip.load(1);
            same("what is armed and loaded does not matter", 0, chip.freeIn());
            chip.write(0);
            chip.suspend();
            same("nor what a hand set aside", 0, chip.freeIn());
            obeyed(chip, "t99");
            same("nor time", 0, chip.freeIn());
        });
        held("NONE if it is not so within 1000 ticks", () -> {
            BusyChip chip = new BusyChip();
            chip.set(1, 96);
            obeyed(chip, "e0;e1;e2;e3;e4;e5;e6;e7;e0;e1");
            same("1000 ticks", 1000, chip.freeIn());
            chip.pass(1);
            same("999 ticks", 999, chip.freeIn());
            obeyed(chip, "w255:00!0");
            same("1001 ticks", -1, chip.freeIn());
            chip.pass(1);
            same("1000 ticks again", 1000, chip.freeIn());
            pass(chip, 999);
            same("the last tick", 1, chip.freeIn());
            chip.pass(1);
            same("then it is so", 0, chip.freeIn());
            BusyChip most = new BusyChip();
            most.set(1, 99);
            obeyed(most, "e0;e1;e2;e3;e4;e5;e6;e7;e0;e1");
            same("1030 ticks", -1, most.freeIn());
            most.pass(30);
            same("1000 of them", 1000, most.freeIn());
            BusyChip never = new BusyChip();
            never.arm();
            never.erase(0);
            never.suspend();
            never.post(1, 7, 9);
            same("never, behind what a hand set aside", -1, never.freeIn());
            never.cut();
            same("until it is lost", 24, never.freeIn());
        });
    }

    private static void leastWorn() {
        in("Promise 34");
        held("Finds the sector that is worn least", () -> {
            BusyChip chip = new BusyChip();
            chip.set(1, 1);
            for (int sector = 0; sector < 8; sector++) {
                same("the next one", sector, chip.leastWorn());
                eraseWholly(chip, sector);
            }
            same("the first one again", 0, chip.leastWorn());
            savesNothing("leastWorn", chip, () -> chip.leastWorn());
        });
        held("Returns of the sectors that are not locked the one that has had the fewest erasures", () -> {
            BusyChip chip = new BusyChip();
            chip.set(1, 1);
            int[] erasures = {3, 2, 4, 3, 2, 1, 1, 0};
            for (int sector = 0; sector < 8; sector++) {
                for (int i = 0; i < erasures[sector]; i++) {
                    eraseWholly(chip, sector);
                }
            }
            same("the last one", 7, chip.leastWorn());
            lockWholly(chip, 1, 1);
            same("it is locked", 5, chip.leastWorn());
            lockWholly(chip, 2, 1);
            same("two are locked", 5, chip.leastWorn());
            lockWholly(chip, 3, 1);
            same("four are locked", 1, chip.leastWorn());
            lockWholly(chip, 3, 0);
            same("the others are locked", 7, chip.leastWorn());
        });
        held("of several the lowest", () -> {
            BusyChip chip = new BusyChip();
            same("a new chip", 0, chip.leastWorn());
            lockWholly(chip, 2, 0);
            same("the lowest that is not locked", 2, chip.leastWorn());
            eraseWholly(chip, 2);
            eraseWholly(chip, 4);
            same("of 3, 5, 6, 7", 3, chip.leastWorn());
        });
        held("NONE if all are locked", () -> {
            BusyChip chip = new BusyChip();
            for (int side = 0; side <= 1; side++) {
                lockWholly(chip, 4, side);
                same("all", -1, chip.leastWorn());
                lockWholly(chip, 3, side);
                same("not all", side == 0 ? 4 : 0, chip.leastWorn());
            }
        });
    }

    private static void commonest() {
        in("Promise 35");
        held("Finds the commonest value", () -> {
            BusyChip chip = new BusyChip();
            same("a new chip", 255, chip.commonest());
            chip.arm();
            chip.erase(0);
            for (int i = 0; i < 4; i++) {
                chip.pass(1);
                same("few zeros", 255, chip.commonest());
            }
            savesNothing("commonest", chip, () -> chip.commonest());
        });
        held("Returns the value that the most cells hold", () -> {
            BusyChip chip = emptied(0, 1, 2, 3, 4, 5, 6, 7);
            same("all hold 0", 0, chip.commonest());
            for (int sector = 0; sector < 4; sector++) {
                eraseWholly(chip, sector);
                same("at least as many do", 0, chip.commonest());
            }
            chip.arm();
            chip.erase(4);
            chip.pass(5);
            same("fewer do", 255, chip.commonest());
            BusyChip one = emptied(0, 1, 2);
            for (int page = 12; page < 15; page++) {
                writeWholly(one, 8 * page, new int[8]);
            }
            writeWholly(one, 120, 0, 0, 0, 0, 0, 0, 0, 1);
            same("128 hold 255, 127 hold 0, one holds 1", 255, one.commonest());
            writeWholly(one, 127, 0);
            writeWholly(one, 255, 1);
            same("128 hold 0, 127 hold 255, one holds 1", 0, one.commonest());
        });
        held("of several the least", () -> {
            BusyChip chip = emptied(0, 1, 2, 3);
            same("128 hold 0, 128 hold 255", 0, chip.commonest());
            eraseWholly(chip, 0);
            chip.set(0, 1);
            for (int page = 16; page < 20; page++) {
                writeWholly(chip, 8 * page, 1, 1, 1, 1, 1, 1, 1, 1);
            }
            same("128 hold 255, 96 hold 0, 32 hold 1", 255, chip.commonest());
            for (int page = 20; page < 28; page++) {
                writeWholly(chip, 8 * page, 1, 1, 1, 1, 1, 1, 1, 1);
            }
            same("96 hold 0, 96 hold 1, 64 hold 255", 0, chip.commonest());
            chip.arm();
            chip.erase(1);
            chip.pass(5);
            same("64 hold 0, 96 hold 1, 96 hold 255", 1, chip.commonest());
        });
    }

    private static void onesShare() {
        in("Promise 36");
        held("Returns how many bits are 1", () -> {
            isTrue("all", new BusyChip().onesShare() == 1.0);
            isTrue("none", emptied(0, 1, 2, 3, 4, 5, 6, 7).onesShare() == 0.0);
        });
        held("Returns the bits of all cells that are 1, as a double, divided by 2048", () -> {
            BusyChip chip = new BusyChip();
            writeWholly(chip, 255, 127);
            isTrue("2047", chip.onesShare() == 0.99951171875);
            writeWholly(chip, 0, 0);
            isTrue("2039", chip.onesShare() == 0.99560546875);
            BusyChip few = emptied(0, 1, 2, 3, 4, 5, 6);
            isTrue("256", few.onesShare() == 0.125);
            few.arm();
            few.erase(7);
            few.pass(3);
            isTrue("64", few.onesShare() == 0.03125);
            few.cut();
            writeWholly(few, 248, 0, 0, 0, 0, 0, 0, 0, 1);
            isTrue("1", few.onesShare() == 0.00048828125);
        });
    }

    private static void meanWear() {
        in("Promise 37");
        held("Returns how much sectors are worn", () -> {
            BusyChip chip = new BusyChip();
            isTrue("not at all", chip.meanWear() == 0.0f);
            chip.set(1, 1);
            for (int sector = 0; sector < 8; sector++) {
                eraseWholly(chip, sector);
            }
            isTrue("each once", chip.meanWear() == 1.0f);
        });
        held("Returns the erasures of all sectors, as a float, divided by 8", () -> {
            BusyChip chip = new BusyChip();
            chip.set(1, 1);
            for (int erasures = 1; erasures <= 25; erasures++) {
                eraseWholly(chip, erasures % 3);
                isTrue(erasures + " erasures", chip.meanWear() == 0.125f * erasures);
            }
        });
    }

    private static void digest() {
        in("Promise 38");
        held("Computes a hash of the whole state", () -> {
            BusyChip chip = new BusyChip();
            long before = chip.digest();
            same("it is the same again", before, chip.digest());
            savesNothing("digest", chip, () -> chip.digest());
            chip.pass(1);
            isTrue("it tells a tick", before != chip.digest());
            chip.undo();
            same("it is as it was", before, chip.digest());
        });
        held("The hash starts at 3607", () -> same("a new chip, worked out elsewhere", -6717945598061685967L,
                new BusyChip().digest()));
        held("For each value v of the following list, in order, the hash becomes 31 * hash + v, "
                + "in long arithmetic with overflow", () -> {
            BusyChip chip = new BusyChip();
            load(chip, 7, 0);
            same("two values loaded, worked out elsewhere", -5178342832400820986L, chip.digest());
            BusyChip other = new BusyChip();
            text(other, "t1~");
            same("three characters, worked out elsewhere", -5590856180760958419L, other.digest());
        });
        held("The values are: count(0) to count(15)", () -> mixed(() -> {
            BusyChip chip = obeyed("e6!0;t2;w96:09!8;t4");
            chip.cut();
            chip.freeze();
            chip.arm();
            return chip;
        }));
        held("the settings 0 to 4", () -> mixed(() -> {
            BusyChip chip = new BusyChip();
            int[] values = {9, 99, 98, 20, 8};
            for (int i = 0; i < 5; i++) {
                chip.set(i, values[i]);
            }
            return chip;
        }));
    }

    /** The digest of a chip that is made so is due; it has no snapshot, no text, and nothing loaded but this. */
    private static void mixed(Supplier<BusyChip> made, int... loaded) {
        same("digest()", Digests.due(made, false, "", loaded), made.get().digest());
    }

    private static void digestOfState() {
        held("for each cell what it holds and its stuck bits", () -> mixed(() -> {
            BusyChip chip = emptied(1, 7);
            chip.set(2, 1);
            writeWholly(chip, 0, 1);
            writeWholly(chip, 255, 2);
            eraseWholly(chip, 3);
            eraseWholly(chip, 3);
            return chip;
        }));
        held("for each sector its numbers 0 to 6", () -> mixed(() -> {
            BusyChip chip = emptied(0, 5);
            lockWholly(chip, 1, 1);
            eraseWholly(chip, 4);
            return obeyed(chip, "e7;w255:00;w0:00;e3");
        }));
        held("the numbers 0 to 4 of the work that is under way, then of the one that is set aside", () -> {
            mixed(() -> obeyed("e6!4;t2;w96:09!8;t1"));
            mixed(() -> obeyed("e6!4;t2;w96:09!8;t2"));
            mixed(() -> obeyed("e6!4;t2;w96:09!8;t3"));
            mixed(() -> {
                BusyChip chip = new BusyChip();
                chip.arm();
                chip.lock(3, 0);
                return chip;
            });
        });
        held("for each order that waits, by its rank, its numbers 0 to 5", () -> {
            mixed(() -> obeyed("e7!8;w224:0102!9;e6!9;w1:00!0;t3"));
            mixed(() -> obeyed("e0;e1;e2;e3;e4;e5;e6;e7;e0;e1"));
        });
        held("the values that are loaded", () -> {
            mixed(() -> loaded(255), 255);
            mixed(() -> loaded(1, 2, 3, 4, 5, 6, 7, 8, 9, 10, 11, 12), 1, 2, 3, 4, 5, 6, 7, 8, 9, 10, 11, 12);
        });
        held("1 if there is a snapshot, otherwise 0", () -> {
            Supplier<BusyChip> kept = () -> {
                BusyChip chip = new BusyChip();
                chip.keep();
                return chip;
            };
            same("with one", Digests.due(kept, true, ""), kept.get().digest());
            same("without one", Digests.due(() -> new BusyChip(), false, ""), new BusyChip().digest());
        });
        held("the length of the buffer and each of its character codes", () -> {
            String[] texts = {"", "!", "~~", "w255:ff!9;t1", "t1;t1;t1;t1;t1;t1;t1;t1;t1;t1;t1;t1;t1;t1;t1;t1;t1;t1;t1;t19"};
            for (String text : texts) {
                Supplier<BusyChip> written = () -> {
                    BusyChip chip = new BusyChip();
                    text(chip, text);
                    return chip;
                };
                same("with " + text, Digests.due(written, false, text), written.get().digest());
            }
        });
        held("Returns the hash", () -> isTrue("two chips differ", new BusyChip().digest() != loaded(0).digest()));
    }

    private static BusyChip loaded(int... values) {
        BusyChip chip = new BusyChip();
        load(chip, values);
        return chip;
    }

    private static BusyChip armed(int... values) {
        BusyChip chip = loaded(values);
        chip.arm();
        return chip;
    }

    private static void digestOfPlans() {
        held("why of a write at the cell 0, of an erase of the sector 0, and of a change of the locks to the level 0", () -> {
            mixed(() -> armed());
            mixed(() -> armed(1), 1);
            mixed(() -> {
                BusyChip chip = armed();
                chip.freeze();
                return chip;
            });
            mixed(() -> {
                BusyChip chip = new BusyChip();
                lockWholly(chip, 1, 0);
                chip.arm();
                return chip;
            });
            mixed(() -> {
                BusyChip chip = new BusyChip();
                lockWholly(chip, 4, 1);
                chip.arm();
                return chip;
            });
        });
        held("misses of the cell 0", () -> {
            mixed(() -> {
                BusyChip chip = emptied(0);
                load(chip, 1, 2, 0);
                return chip;
            }, 1, 2, 0);
            mixed(() -> {
                BusyChip chip = obeyed("w0:00;t2");
                chip.load(1);
                return chip;
            }, 1);
        });
        held("fits", () -> {
            mixed(() -> {
                BusyChip chip = emptied(0, 1);
                chip.load(1);
                return chip;
            }, 1);
            mixed(() -> {
                BusyChip chip = new BusyChip();
                lockWholly(chip, 4, 1);
                return chip;
            });
        });
        held("freeIn", () -> {
            mixed(() -> obeyed("e0;e1;e2;t1"));
            mixed(() -> {
                BusyChip chip = obeyed("e0;t1");
                chip.suspend();
                chip.post(1, 3, 0);
                return chip;
            });
        });
        held("leastWorn", () -> {
            mixed(() -> obeyed("e0;e1;t48"));
            mixed(() -> {
                BusyChip chip = new BusyChip();
                lockWholly(chip, 4, 0);
                return chip;
            });
        });
        held("commonest", () -> mixed(() -> emptied(0, 1, 2, 3, 4)));
        held("the bits of onesShare (as Double.doubleToLongBits)", () -> {
            mixed(() -> emptied(0, 1, 2, 3, 4, 5, 6, 7));
            mixed(() -> emptied(0, 1, 2, 3, 4, 5, 6));
            mixed(() -> obeyed("w0:7f;t2"));
            mixed(() -> {
                BusyChip chip = emptied(0, 1, 2, 3, 4, 5, 6);
                chip.arm();
                chip.erase(7);
                chip.pass(3);
                chip.cut();
                writeWholly(chip, 248, 0, 0, 0, 0, 0, 0, 0, 1);
                return chip;
            });
        });
        held("the bits of meanWear (as Float.floatToIntBits)", () -> {
            for (int erasures = 0; erasures <= 40; erasures++) {
                int many = erasures;
                mixed(() -> {
                    BusyChip chip = new BusyChip();
                    chip.set(1, 1);
                    for (int i = 0; i < many; i++) {
                        eraseWholly(chip, i % 8);
                    }
                    return chip;
                });
            }
        });
    }
}
