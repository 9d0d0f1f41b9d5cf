/** Promises 12 to 15: orders, time, settings; the clerk. */
public final class OrdersTest {
    public static void main(String[] args) {
        post();
        postRefused();
        withdraw();
        pass();
        clerkTakesTheForemost();
        clerkSetsAside();
        clerkAndLocks();
        clerkAndHands();
        set();
        Check.end("OrdersTest");
    }

    private static void post() {
        BusyChip chip = new BusyChip();
        Check.load(chip, 1, 2, 3);
        Check.undoable("12: post a write", chip, () -> chip.post(0, 255, 9));
        Check.same("12: the first number", 0, chip.post(0, 255, 9));
        Check.same("12: nothing is loaded then", 0, chip.count(11));
        chip.load(77);
        Check.undoable("12: post an erase", chip, () -> chip.post(1, 7, 0));
        Check.same("12: the next number", 1, chip.post(1, 7, 0));
        Check.same("12: an erase leaves what is loaded", 1, chip.count(11));
        Check.same("12: orders wait", 2, chip.count(10));
        Check.same("12: values of a write", 3, chip.order(0, 5));
        Check.same("12: values of an erase", 0, chip.order(1, 5));
        chip.withdraw(1);
        Check.same("12: numbers go on", 2, chip.post(1, 0, 0));
        chip.undo();
        Check.same("12: but for those that are undone", 2, chip.post(1, 0, 0));
        chip.pass(60);
        Check.same("12: the order's own values", 1, chip.cell(255, 0));
        Check.same("12: the next one", 2, chip.cell(248, 0));
    }

    private static void postRefused() {
        BusyChip chip = new BusyChip();
        Check.argument("12: kind -1", chip, () -> chip.post(-1, 0, 0));
        Check.argument("12: kind 2", chip, () -> chip.post(2, 0, 0));
        Check.argument("12: urgency -1", chip, () -> chip.post(1, 0, -1));
        Check.argument("12: urgency 10", chip, () -> chip.post(1, 0, 10));
        Check.argument("12: the urgency before the cell", chip, () -> chip.post(0, 256, 10));
        Check.index("12: cell 256, before nothing is loaded", chip, () -> chip.post(0, 256, 0));
        Check.index("12: cell -1", chip, () -> chip.post(0, -1, 0));
        Check.index("12: sector 8", chip, () -> chip.post(1, 8, 0));
        Check.index("12: sector -1", chip, () -> chip.post(1, -1, 0));
        Check.state("12: nothing is loaded", chip, () -> chip.post(0, 0, 0));
        for (int i = 0; i < 10; i++) {
            Check.same("12: number", i, chip.post(1, i % 8, 5));
        }
        Check.state("12: 10 orders wait", chip, () -> chip.post(1, 0, 9));
        chip.load(1);
        Check.state("12: 10 orders wait, a write", chip, () -> chip.post(0, 0, 9));
        Check.index("12: the sector before the 10 orders", chip, () -> chip.post(1, 8, 9));
        chip.pass(1);
        Check.same("12: one that is begun waits no more", 10, chip.post(0, 0, 9));
    }

    private static void withdraw() {
        BusyChip chip = new BusyChip();
        Check.index("13: none waits", chip, () -> chip.withdraw(0));
        chip.post(1, 0, 1);
        chip.post(1, 1, 9);
        chip.load(5);
        chip.post(0, 2, 5);
        Check.index("13: withdraw(-1)", chip, () -> chip.withdraw(-1));
        Check.index("13: withdraw(3)", chip, () -> chip.withdraw(3));
        Check.undoable("13: withdraw", chip, () -> chip.withdraw(2));
        Check.same("13: withdraw", 2, chip.withdraw(2));
        Check.index("13: it waits no more", chip, () -> chip.withdraw(2));
        Check.same("13: the foremost one", 1, chip.order(0, 0));
        Check.same("13: the last one", 0, chip.order(1, 0));
        chip.pass(1);
        Check.index("13: it is begun", chip, () -> chip.withdraw(1));
        Check.same("13: none is left", 0, chip.withdraw(0));
        chip.load(9);
        chip.post(0, 7, 3);
        Check.same("13: a later order has its own values", 1, chip.order(0, 5));
        chip.withdraw(3);
        chip.post(1, 7, 3);
        Check.same("13: and a later erase has none", 0, chip.order(0, 5));
    }

    private static void pass() {
        BusyChip chip = new BusyChip();
        Check.argument("14: pass(0)", chip, () -> chip.pass(0));
        Check.argument("14: pass(201)", chip, () -> chip.pass(201));
        Check.argument("14: pass(-1)", chip, () -> chip.pass(-1));
        Check.same("14: nothing goes on", 0, chip.pass(200));
        Check.same("14: ticks", 200, chip.count(0));
        chip.arm();
        chip.erase(0);
        Check.undoable("14: pass", chip, () -> chip.pass(30));
        Check.same("14: some work went on", 24, chip.pass(30));
        Check.same("14: ticks", 230, chip.count(0));
        chip.load(1);
        chip.post(0, 0, 0);
        chip.post(1, 1, 0);
        Check.same("14: no tick between the works", 26, chip.pass(100));
        chip.arm();
        chip.lock(1, 0);
        Check.same("14: a change of the locks is a work", 1, chip.pass(1));
    }

    private static void clerkTakesTheForemost() {
        BusyChip chip = new BusyChip();
        chip.set(0, 1);
        int[] urgencies = {3, 7, 3, 9, 7, 0};
        for (int i = 0; i < urgencies.length; i++) {
            chip.load(i);
            chip.post(0, 8 * i, urgencies[i]);
        }
        int[] due = {3, 1, 4, 0, 2, 5};
        for (int rank = 0; rank < due.length; rank++) {
            Check.same("27: rank " + rank, due[rank], chip.order(rank, 0));
        }
        for (int number : due) {
            Check.same("14: not begun yet", 255, chip.cell(8 * number, 0));
            Check.same("14: begun, and goes on in the same tick", 1, chip.pass(1));
            Check.same("14: the order " + number, number, chip.cell(8 * number, 0));
        }
        Check.same("14: the clerk needs no arming, and takes it not away", 0, chip.arm());
        chip.load(0);
        chip.post(0, 100, 5);
        chip.pass(1);
        Check.same("14: still armed", 1, chip.count(1));
        chip.load(0);
        chip.set(0, 4);
        chip.post(0, 100, 5);
        chip.set(0, 3);
        chip.pass(1);
        Check.same("14: setting 0 as the order is begun", 2, chip.work(0, 2));
        Check.same("26: urgency of its order", 5, chip.work(0, 3));
    }

    private static void clerkSetsAside() {
        BusyChip chip = new BusyChip();
        chip.post(1, 2, 2);
        chip.pass(2);
        chip.load(1);
        chip.post(0, 0, 4);
        chip.load(2);
        chip.post(0, 70, 9);
        chip.post(1, 3, 9);
        chip.pass(1);
        Check.same("14: too little urgency, its own sector, an erase: none presses", 2, chip.work(0, 0));
        Check.same("14: nothing is set aside", 0, chip.count(14));
        chip.load(3);
        chip.post(0, 8, 5);
        chip.load(4);
        chip.post(0, 16, 6);
        Check.same("14: it is set aside, and a write is begun", 1, chip.pass(1));
        Check.same("14: by the clerk", 1, chip.work(1, 4));
        Check.same("14: how often", 1, chip.count(14));
        Check.same("14: ticks left of the erase", 21, chip.work(1, 2));
        Check.same("14: the foremost one that presses", 16, chip.work(0, 1));
        Check.same("14: one tick of it went on", 1, chip.work(0, 2));
        chip.pass(1);
        Check.same("14: the write has ended", 4, chip.cell(16, 0));
        chip.pass(1);
        Check.same("14: the next one that presses", 8, chip.work(0, 1));
        chip.pass(1);
        Check.same("14: the erase stays aside", 2, chip.work(1, 0));
        Check.same("14: the erase goes on in the same tick", 1, chip.pass(1));
        Check.same("14: ticks left", 20, chip.work(0, 2));
        Check.same("14: nothing is aside", 0, chip.work(1, 0));
        Check.same("14: set aside once", 1, chip.count(14));
        chip.set(4, 2);
        chip.pass(1);
        Check.same("14: setting 4 as it is in the tick", 0, chip.work(0, 1));
        Check.same("14: set aside twice", 2, chip.count(14));
        chip.pass(200);
        Check.same("14: all in all", 0, chip.count(10));
        Check.same("14: erasures", 2, chip.count(6));
        Check.same("14: the own sector comes behind it", 2, chip.cell(70, 0));
    }

    private static void clerkAndLocks() {
        BusyChip chip = new BusyChip();
        Check.lockWholly(chip, 1, 1);
        chip.load(1);
        chip.post(0, 224, 9);
        chip.post(1, 7, 9);
        chip.post(1, 0, 1);
        chip.pass(1);
        Check.same("14: locked sectors are passed over", 0, chip.work(0, 1));
        Check.same("14: an erase", 2, chip.work(0, 0));
        chip.pass(1);
        Check.same("14: an order for a locked sector does not press", 0, chip.count(14));
        Check.same("14: the rest", 22, chip.pass(100));
        Check.same("14: two wait on", 2, chip.count(10));
        Check.lockWholly(chip, 0, 1);
        Check.same("14: then they are done", 26, chip.pass(100));
    }

    private static void clerkAndHands() {
        BusyChip chip = new BusyChip();
        chip.arm();
        chip.erase(1);
        chip.load(1);
        chip.post(0, 0, 9);
        chip.pass(1);
        Check.same("14: an erase by hand is not pressed", 2, chip.work(0, 0));
        chip.suspend();
        Check.same("14: nothing beside a work set aside by hand", 0, chip.pass(3));
        Check.same("14: it waits", 4, chip.order(0, 4));
        chip.resume();
        Check.same("14: both to their ends", 25, chip.pass(100));
        chip.post(1, 3, 0);
        chip.pass(1);
        chip.load(1);
        chip.post(0, 0, 3);
        chip.pass(1);
        Check.same("14: an urgency as great as both together", 1, chip.work(1, 4));
        chip.pass(1);
        chip.load(1);
        chip.arm();
        chip.write(9);
        chip.load(1);
        chip.post(0, 0, 9);
        chip.pass(1);
        Check.same("14: nothing beside a work by hand", 9, chip.work(0, 1));
        chip.pass(1);
        chip.resume();
        chip.pass(1);
        Check.same("14: an erase that the clerk began can be set aside again", 0, chip.work(0, 1));
        Check.same("14: by the clerk", 1, chip.work(1, 4));
        chip.cut();
        chip.post(1, 3, 9);
        chip.pass(1);
        chip.load(1);
        chip.post(0, 0, 9);
        chip.pass(1);
        Check.same("14: nobody presses what is that urgent", 0, chip.work(1, 0));
    }

    private static void set() {
        BusyChip chip = new BusyChip();
        int[] first = {2, 20, 30, 5, 3};
        int[] most = {9, 99, 99, 20, 9};
        for (int i = 0; i < 5; i++) {
            int setting = i;
            int top = most[i];
            Check.argument("15: too small", chip, () -> chip.set(setting, 0));
            Check.argument("15: too great", chip, () -> chip.set(setting, top + 1));
            Check.argument("15: negative", chip, () -> chip.set(setting, -5));
            Check.undoable("15: set", chip, () -> chip.set(setting, 1));
            Check.same("15: the previous value", first[i], chip.set(i, top));
            Check.same("15: the greatest value", top, chip.setting(i));
            Check.same("15: the previous value again", top, chip.set(i, 1));
            Check.same("15: the least value", 1, chip.setting(i));
            chip.undo();
            chip.undo();
        }
        Check.index("15: setting -1", chip, () -> chip.set(-1, 1));
        Check.index("15: setting 5, before the value", chip, () -> chip.set(5, 0));
    }
}
