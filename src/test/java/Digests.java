import java.util.function.Supplier;

/** Promise 38 from the other answers: the digest that is due. */
final class Digests {
    private long hash = 3607;

    private Digests() {
    }

    /** What the chip can not be asked for is told: whether there is a snapshot, the buffer, the values that are loaded. */
    static long due(BusyChip chip, boolean snapshot, String buffer, int... loaded) {
        return due(() -> chip, snapshot, buffer, loaded);
    }

    /** Asks several chips that are made alike, each some 260 times at most. */
    static long due(Supplier<BusyChip> made, boolean snapshot, String buffer, int... loaded) {
        Digests digest = new Digests();
        BusyChip chip = made.get();
        digest.addCounts(chip);
        for (int cell = 0; cell < 256; cell += 128) {
            digest.addCells(made.get(), cell);
        }
        digest.addWorksAndOrders(chip);
        for (int value : loaded) {
            digest.add(value);
        }
        digest.addPlans(chip);
        digest.add(snapshot ? 1 : 0);
        digest.add(buffer.length());
        for (int i = 0; i < buffer.length(); i++) {
            digest.add(buffer.charAt(i));
        }
        return digest.hash;
    }

    private void add(long value) {
        hash = 31 * hash + value;
    }

    private void addCounts(BusyChip chip) {
        for (int what = 0; what <= 15; what++) {
            add(chip.count(what));
        }
        for (int i = 0; i <= 4; i++) {
            add(chip.setting(i));
        }
    }

    private void addCells(BusyChip chip, int first) {
        for (int cell = first; cell < first + 128; cell++) {
            add(chip.cell(cell, 0));
            add(chip.cell(cell, 1));
        }
    }

    private void addWorksAndOrders(BusyChip chip) {
        for (int sector = 0; sector < 8; sector++) {
            for (int what = 0; what <= 6; what++) {
                add(chip.sector(sector, what));
            }
        }
        for (int aside = 0; aside <= 1; aside++) {
            for (int what = 0; what <= 4; what++) {
                add(chip.work(aside, what));
            }
        }
        for (int rank = 0; rank < chip.count(10); rank++) {
            for (int what = 0; what <= 5; what++) {
                add(chip.order(rank, what));
            }
        }
    }

    private void addPlans(BusyChip chip) {
        for (int kind = 1; kind <= 3; kind++) {
            add(chip.why(kind, 0));
        }
        add(chip.misses(0));
        add(chip.fits());
        add(chip.freeIn());
        add(chip.leastWorn());
        add(chip.commonest());
        add(Double.doubleToLongBits(chip.onesShare()));
        add(Float.floatToIntBits(chip.meanWear()));
    }
}
