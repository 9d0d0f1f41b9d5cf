/** How BusyChip is used: README.md shows this file, and what it prints. */
public final class Example {
    public static void main(String[] args) {
        BusyChip chip = new BusyChip();
        byHand(chip);
        refused(chip);
        byTheClerk(chip);
        asTexts(chip);
        backAgain(chip);
    }

    private static void byHand(BusyChip chip) {
        chip.load(0xf0);
        chip.load(0x0f);
        chip.arm();                     // each work by hand needs it
        int ticks = chip.write(7);      // begins; the chip is busy now
        System.out.println("ticks of the write: " + ticks);
        chip.pass(ticks);               // time passes, the write goes on to its end
        System.out.println("the cells 7 and 0: " + chip.read(7) + ", " + chip.read(0));

        chip.load(0xff);                // bits can only fall, so ask ahead
        System.out.println("misses at the cell 7: " + chip.misses(7) + ", fits at the cell " + chip.fits());
    }

    private static void refused(BusyChip chip) {
        System.out.println("why no write: " + chip.why(1, 8));    // 2: not armed
        try {
            chip.write(8);
        } catch (IllegalStateException e) {
            System.out.println("refused, " + chip.count(11) + " value is loaded as before");
        }
    }

    private static void byTheClerk(BusyChip chip) {
        chip.post(1, 0, 2);             // an order: erase the sector 0, urgency 2
        chip.pass(3);                   // the clerk begins it
        chip.post(0, 40, 9);            // a write of what is loaded, more urgent
        chip.pass(1);
        System.out.println("an erase is set aside: " + (chip.work(1, 0) == 2));
        passUntilFree(chip);
        System.out.println("the cell 7 is erased: " + chip.read(7));
    }

    /** Lets all orders be done; false if they never will be, or not soon. */
    private static boolean passUntilFree(BusyChip chip) {
        int left = chip.freeIn();
        if (left == BusyChip.NONE) {
            return false;
        }
        for (; left > 0; left -= 200) {
            chip.pass(Math.min(left, 200));
        }
        return true;
    }

    private static void asTexts(BusyChip chip) {
        String orders = "w64:0f1e!9;e3;t40";
        for (int i = 0; i < orders.length(); i++) {
            chip.append(orders.charAt(i));
        }
        boolean hasError = chip.firstError() < orders.length();
        System.out.println("an error: " + hasError + ", parts done: " + chip.obey());
        System.out.println("the cells 64 and 65: " + chip.read(64) + ", " + chip.read(65));
    }

    private static void backAgain(BusyChip chip) {
        chip.undo();                    // the latest of up to 6 saved states
        System.out.println("the cell 64 behind undo: " + chip.read(64));
        chip.keep();                    // a snapshot, for as often as it is wanted
        chip.cut();
        chip.pass(100);
        System.out.println("ticks: " + chip.count(0) + ", behind goBack: " + chip.goBack());
    }
}
