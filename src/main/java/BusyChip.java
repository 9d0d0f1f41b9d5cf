import java.util.Arrays;

/** A small chip whose cells are written behind a busy flag: see ../shared/DOC.md for what it promises. */
public final class BusyChip {
    public static final int NONE = -1;

    private static final int CELLS = 256;
    private static final int PAGE_CELLS = 8;
    private static final int SECTOR_CELLS = 32;
    private static final int SECTORS = 8;
    private static final int SECTOR_PAGES = 4;
    private static final int CELL_BITS = 8;
    private static final int ALL_BITS = 255;

    private static final int NO_WORK = 0;
    private static final int WRITE = 1;
    private static final int ERASE = 2;
    private static final int LOCKS_CHANGE = 3;

    private static final int MOST_LOADED = 12;
    private static final int MOST_ORDERS = 10;
    private static final int MOST_URGENT = 9;
    private static final int MOST_TICKS = 200;
    private static final int MOST_TEXT = 60;
    private static final int MOST_SAVED = 6;
    private static final int MOST_FORESEEN = 1000;

    private static final int TOP = 1;
    private static final int HIGHEST_LEVEL = 4;

    private static final int CELL_TICKS = 0;
    private static final int ERASE_TICKS = 1;
    private static final int BORNE_ERASURES = 2;
    private static final int LOCKS_TICKS = 3;
    private static final int PRESSING_BY = 4;
    private static final int[] FIRST_SETTINGS = {2, 20, 30, 5, 3};
    private static final int[] LEAST_SETTINGS = {1, 1, 1, 1, 1};
    private static final int[] MOST_SETTINGS = {9, 99, 99, 20, 9};

    private static final long FIRST_HASH = 3607L;
    private static final int SHARE_SHIFT = 11;
    private static final int WEAR_SHIFT = 3;

    private final State now = new State();
    private final State foreseen = new State();
    private final State snapshot = new State();
    private boolean hasSnapshot = false;
    private final State[] saved = new State[MOST_SAVED];
    private int savedStates = 0;
    private final char[] buffer = new char[MOST_TEXT];
    private int length = 0;
    private final Scribe scribe = new Scribe();
    private final int[] tally = new int[ALL_BITS + 1];

    public BusyChip() {
        for (int i = 0; i < saved.length; i++) {
            saved[i] = new State();
        }
    }

    // ---- works by hand

    public int arm() throws IllegalStateException {
        if (now.isBusy()) {
            throw new IllegalStateException("the chip is busy");
        }
        save();
        int before = now.armed ? 1 : 0;
        now.armed = true;
        return before;
    }

    public int load(int value) throws IllegalArgumentException, IllegalStateException {
        if (!isWithin(value, 0, ALL_BITS)) {
            throw new IllegalArgumentException("a value is 0 to 255");
        }
        if (now.loaded.size >= MOST_LOADED) {
            throw new IllegalStateException("12 values are loaded");
        }
        save();
        now.loaded.add(value);
        return now.loaded.size;
    }

    public int unload() {
        save();
        int before = now.loaded.size;
        now.loaded.size = 0;
        return before;
    }

    public int write(int cell) throws IndexOutOfBoundsException, IllegalStateException {
        if (!isCell(cell)) {
            throw new IndexOutOfBoundsException("no such cell");
        }
        if (now.hindrance(WRITE, cell) != 0) {
            throw new IllegalStateException("the write can not be begun");
        }
        save();
        now.under.startWrite(cell, now.loaded, now.settingOf(CELL_TICKS), NONE);
        now.loaded.size = 0;
        now.armed = false;
        return now.under.left();
    }

    public int erase(int sector) throws IndexOutOfBoundsException, IllegalStateException {
        if (!isSector(sector)) {
            throw new IndexOutOfBoundsException("no such sector");
        }
        if (now.hindrance(ERASE, sector) != 0) {
            throw new IllegalStateException("the erase can not be begun");
        }
        save();
        now.under.start(ERASE, sector, now.eraseTicks(sector), NONE);
        now.armed = false;
        return now.under.left();
    }

    public int lock(int level, int side) throws IllegalArgumentException, IllegalStateException {
        if (!isWithin(level, 0, HIGHEST_LEVEL) || !isWithin(side, 0, TOP)) {
            throw new IllegalArgumentException("a level is 0 to 4, a side 0 or 1");
        }
        if (now.hindrance(LOCKS_CHANGE, level) != 0) {
            throw new IllegalStateException("the change of the locks can not be begun");
        }
        save();
        now.under.start(LOCKS_CHANGE, level, now.settingOf(LOCKS_TICKS), NONE);
        now.under.side = side;
        now.armed = false;
        return now.under.left();
    }

    public int freeze() throws IllegalStateException {
        if (now.isBusy()) {
            throw new IllegalStateException("the chip is busy");
        }
        save();
        int before = now.locks.frozen ? 1 : 0;
        now.locks.frozen = true;
        return before;
    }

    public int suspend() throws IllegalStateException {
        boolean canWait = now.under.kind == WRITE || now.under.kind == ERASE;
        if (!canWait || now.aside.kind != NO_WORK) {
            throw new IllegalStateException("nothing can be set aside");
        }
        save();
        now.setAside(false);
        return now.aside.left();
    }

    public int resume() throws IllegalStateException {
        if (now.aside.kind == NO_WORK || now.isBusy()) {
            throw new IllegalStateException("nothing can go on");
        }
        save();
        now.letGoOn();
        return now.under.left();
    }

    public int cut() {
        save();
        return now.losePower();
    }

    // ---- orders, time, settings

    public int post(int kind, int where, int urgency)
            throws IllegalArgumentException, IndexOutOfBoundsException, IllegalStateException {
        if (!isWithin(kind, 0, 1) || !isWithin(urgency, 0, MOST_URGENT)) {
            throw new IllegalArgumentException("a kind is 0 or 1, an urgency 0 to 9");
        }
        if (kind == 0 ? !isCell(where) : !isSector(where)) {
            throw new IndexOutOfBoundsException("no such cell or sector");
        }
        if (now.line.isFull() || kind == 0 && now.loaded.size == 0) {
            throw new IllegalStateException("10 orders wait, or nothing is loaded");
        }
        save();
        if (kind == 1) {
            return now.line.join(ERASE, where, urgency, now.ticks);
        }
        int number = now.line.joinWrite(where, urgency, now.ticks, now.loaded);
        now.loaded.size = 0;
        return number;
    }

    public int withdraw(int number) throws IndexOutOfBoundsException {
        int rank = now.line.rankOf(number);
        if (rank == NONE) {
            throw new IndexOutOfBoundsException("no order with this number waits");
        }
        save();
        now.line.leave(rank);
        return now.line.size;
    }

    public int pass(int ticks) throws IllegalArgumentException {
        if (!isWithin(ticks, 1, MOST_TICKS)) {
            throw new IllegalArgumentException("ticks are 1 to 200");
        }
        save();
        int wentOn = 0;
        for (int i = 0; i < ticks; i++) {
            if (now.tick()) {
                wentOn++;
            }
        }
        return wentOn;
    }

    public int set(int setting, int value) throws IndexOutOfBoundsException, IllegalArgumentException {
        if (!isSetting(setting)) {
            throw new IndexOutOfBoundsException("no such setting");
        }
        if (!isWithin(value, at(LEAST_SETTINGS, setting), at(MOST_SETTINGS, setting))) {
            throw new IllegalArgumentException("the value is out of range");
        }
        save();
        int before = now.settingOf(setting);
        put(now.settings, setting, value);
        return before;
    }

    // ---- texts, the snapshot

    public int append(int code) throws IllegalArgumentException, IllegalStateException {
        if (!isWithin(code, 33, 126)) {
            throw new IllegalArgumentException("a code is 33 to 126");
        }
        if (!isWithin(length, 0, buffer.length - 1)) {
            throw new IllegalStateException("the buffer has 60 characters");
        }
        buffer[length] = (char) code;
        length++;
        return length;
    }

    public int clearBuffer() {
        int before = length;
        length = 0;
        return before;
    }

    public int firstError() {
        scribe.start();
        for (int i = 0; i < length && i < buffer.length; i++) {
            if (!scribe.goesOnWith(buffer[i])) {
                return i;
            }
        }
        return length;
    }

    public int obey() throws IllegalArgumentException {
        if (firstError() < length || !scribe.isComplete()) {
            throw new IllegalArgumentException("the buffer is not complete orders as a text");
        }
        save();
        int done = 0;
        boolean goesOn = true;
        scribe.start();
        for (int i = 0; i <= length && goesOn; i++) {
            // the end of the text ends a part, as a ";" does
            char next = i < length && i < buffer.length ? buffer[i] : ';';
            if (next == ';') {
                goesOn = doPart();
                done += goesOn ? 1 : 0;
            }
            scribe.goesOnWith(next);
        }
        length = 0;
        return done;
    }

    public int keep() {
        snapshot.become(now);
        hasSnapshot = true;
        return now.ticks;
    }

    public int goBack() throws IllegalStateException {
        if (!hasSnapshot) {
            throw new IllegalStateException("there is no snapshot");
        }
        save();
        now.become(snapshot);
        return now.ticks;
    }

    public int undo() throws IllegalStateException {
        if (savedStates <= 0) {
            throw new IllegalStateException("there is no saved state");
        }
        savedStates--;
        restore(savedStates);
        return savedStates;
    }

    // ---- looks; nothing is changed

    public int read(int cell) throws IndexOutOfBoundsException, IllegalStateException {
        if (!isCell(cell)) {
            throw new IndexOutOfBoundsException("no such cell");
        }
        if (now.isBusy() || now.aside.concerns(cell)) {
            throw new IllegalStateException("the cell can not be read");
        }
        return at(now.cells.held, cell);
    }

    public int cell(int cell, int what) throws IndexOutOfBoundsException, IllegalArgumentException {
        if (!isCell(cell)) {
            throw new IndexOutOfBoundsException("no such cell");
        }
        if (!isWithin(what, 0, 3)) {
            throw new IllegalArgumentException("what is 0 to 3");
        }
        switch (what) {
            case 0: return at(now.cells.held, cell);
            case 1: return at(now.cells.stuck, cell);
            case 2: return now.cells.isUnsure(cell / PAGE_CELLS) ? 1 : 0;
            default: return now.loaded.valueFor(cell % PAGE_CELLS);
        }
    }

    public int sector(int sector, int what) throws IndexOutOfBoundsException, IllegalArgumentException {
        if (!isSector(sector)) {
            throw new IndexOutOfBoundsException("no such sector");
        }
        if (!isWithin(what, 0, 6)) {
            throw new IllegalArgumentException("what is 0 to 6");
        }
        switch (what) {
            case 0: return at(now.cells.erasures, sector);
            case 1: return now.locks.hold(sector) ? 1 : 0;
            case 2: return now.cells.ones(sector * SECTOR_CELLS, SECTOR_CELLS);
            case 3: return now.cells.fallenPages(sector);
            case 4: return now.cells.unsurePages(sector);
            case 5: return now.eraseTicks(sector);
            default: return now.line.ordersFor(sector);
        }
    }

    public int work(int aside, int what) throws IllegalArgumentException {
        if (!isWithin(aside, 0, 1) || !isWithin(what, 0, 4)) {
            throw new IllegalArgumentException("aside is 0 or 1, what 0 to 4");
        }
        Work told = aside == 1 ? now.aside : now.under;
        switch (what) {
            case 0: return told.kind;
            case 1: return told.where;
            case 2: return told.left();
            case 3: return told.urgency;
            default: return told.asideByClerk ? 1 : 0;
        }
    }

    public int order(int rank, int what) throws IndexOutOfBoundsException, IllegalArgumentException {
        Order told = now.line.orderAt(rank);
        if (told == null) {
            throw new IndexOutOfBoundsException("no such rank");
        }
        if (!isWithin(what, 0, 5)) {
            throw new IllegalArgumentException("what is 0 to 5");
        }
        switch (what) {
            case 0: return told.number;
            case 1: return told.kind == WRITE ? 0 : 1;
            case 2: return told.where;
            case 3: return told.urgency;
            case 4: return now.ticks - told.postedAt;
            default: return told.row.size;
        }
    }

    public int count(int what) throws IllegalArgumentException {
        if (!isWithin(what, 0, 15)) {
            throw new IllegalArgumentException("what is 0 to 15");
        }
        switch (what) {
            case 0: return now.ticks;
            case 1: return now.armed ? 1 : 0;
            case 2: return now.locks.frozen ? 1 : 0;
            case 3: return now.locks.level;
            case 4: return now.locks.side;
            case 5: return now.cells.ones(0, CELLS);
            case 6: return now.cells.allErasures();
            case 7: return now.writesEnded;
            case 8: return now.bitsFallen;
            case 9: return now.worksLost;
            case 10: return now.line.size;
            case 11: return now.loaded.size;
            case 12: return now.cells.stuckBits();
            case 13: return Integer.bitCount(now.cells.unsure);
            case 14: return now.timesAside;
            default: return savedStates;
        }
    }

    public int setting(int setting) throws IndexOutOfBoundsException {
        if (!isSetting(setting)) {
            throw new IndexOutOfBoundsException("no such setting");
        }
        return now.settingOf(setting);
    }

    public int why(int kind, int where) throws IllegalArgumentException, IndexOutOfBoundsException {
        if (!isWithin(kind, WRITE, LOCKS_CHANGE)) {
            throw new IllegalArgumentException("a kind is 1 to 3");
        }
        if (!isPlace(kind, where)) {
            throw new IndexOutOfBoundsException("no such cell, sector or level");
        }
        return now.hindrance(kind, where);
    }

    // ---- what would be; nothing is changed

    public int misses(int cell) throws IndexOutOfBoundsException {
        if (!isCell(cell)) {
            throw new IndexOutOfBoundsException("no such cell");
        }
        return now.missesAt(cell);
    }

    public int fits() {
        for (int cell = 0; cell < CELLS; cell++) {
            if (!now.locks.hold(cell / SECTOR_CELLS) && now.missesAt(cell) == 0) {
                return cell;
            }
        }
        return NONE;
    }

    public int freeIn() {
        foreseen.become(now);
        for (int passed = 0; passed <= MOST_FORESEEN; passed++) {
            if (foreseen.isFree()) {
                return passed;
            }
            if (!foreseen.tick()) {
                // a tick in which nothing went on has changed nothing, and so will all later ones
                return NONE;
            }
        }
        return NONE;
    }

    public int leastWorn() {
        int least = NONE;
        for (int sector = 0; sector < SECTORS; sector++) {
            if (!now.locks.hold(sector)
                    && (least == NONE || at(now.cells.erasures, sector) < at(now.cells.erasures, least))) {
                least = sector;
            }
        }
        return least;
    }

    public int commonest() {
        Arrays.fill(tally, 0);
        for (int cell = 0; cell < CELLS; cell++) {
            int value = at(now.cells.held, cell);
            put(tally, value, at(tally, value) + 1);
        }
        int most = 0;
        for (int value = 0; value < tally.length; value++) {
            if (tally[value] > at(tally, most)) {
                most = value;
            }
        }
        return most;
    }

    public double onesShare() {
        return (double) now.cells.ones(0, CELLS) / 2048.0;
    }

    public float meanWear() {
        return (float) now.cells.allErasures() / 8.0f;
    }

    public long digest() {
        long hash = mixNumbers(FIRST_HASH);
        hash = mixCells(hash);
        hash = mixWorks(hash);
        hash = mixOrders(hash);
        hash = mixReasons(hash);
        hash = mix(hash, fits());
        hash = mix(hash, freeIn());
        hash = mix(hash, leastWorn());
        hash = mix(hash, commonest());
        hash = mix(hash, shareBits(now.cells.ones(0, CELLS)));
        hash = mix(hash, wearBits(now.cells.allErasures()));
        return mixTexts(hash);
    }

    // ---- the parts of the digest

    private static long mix(long hash, long value) {
        return 31L * hash + value;
    }

    private long mixNumbers(long before) {
        long hash = before;
        for (int what = 0; what <= 15; what++) {
            hash = mix(hash, count(what));
        }
        for (int i = 0; i < now.settings.length; i++) {
            hash = mix(hash, now.settings[i]);
        }
        return hash;
    }

    private long mixCells(long before) {
        long hash = before;
        for (int cell = 0; cell < CELLS; cell++) {
            hash = mix(hash, at(now.cells.held, cell));
            hash = mix(hash, at(now.cells.stuck, cell));
        }
        for (int sector = 0; sector < SECTORS; sector++) {
            for (int what = 0; what <= 6; what++) {
                hash = mix(hash, sector(sector, what));
            }
        }
        return hash;
    }

    private long mixWorks(long before) {
        long hash = before;
        for (int aside = 0; aside <= 1; aside++) {
            for (int what = 0; what <= 4; what++) {
                hash = mix(hash, work(aside, what));
            }
        }
        return hash;
    }

    private long mixOrders(long before) {
        long hash = before;
        for (int rank = 0; rank < now.line.size; rank++) {
            for (int what = 0; what <= 5; what++) {
                hash = mix(hash, order(rank, what));
            }
        }
        for (int i = 0; i < now.loaded.size; i++) {
            hash = mix(hash, at(now.loaded.values, i));
        }
        return hash;
    }

    private long mixReasons(long before) {
        long hash = before;
        for (int kind = WRITE; kind <= LOCKS_CHANGE; kind++) {
            hash = mix(hash, now.hindrance(kind, 0));
        }
        return mix(hash, now.missesAt(0));
    }

    private long mixTexts(long before) {
        long hash = mix(before, hasSnapshot ? 1 : 0);
        hash = mix(hash, length);
        for (int i = 0; i < length && i < buffer.length; i++) {
            hash = mix(hash, buffer[i]);
        }
        return hash;
    }

    // The bits of onesShare and meanWear are put together here, as the language
    // that binds this file has neither doubleToLongBits nor floatToIntBits; both
    // shares are whole numbers over a power of 2, so nothing is rounded.

    private static long shareBits(int ones) {
        if (ones <= 0) {
            return 0L;
        }
        int highest = highestBit(ones);
        long fraction = ((long) ones - (1L << highest)) << (52 - highest);
        return ((long) (1023 + highest - SHARE_SHIFT) << 52) + fraction;
    }

    private static int wearBits(int erasures) {
        if (erasures <= 0) {
            return 0;
        }
        int highest = highestBit(erasures);
        int fraction = (erasures - (1 << highest)) << (23 - highest);
        return ((127 + highest - WEAR_SHIFT) << 23) + fraction;
    }

    private static int highestBit(int number) {
        for (int bit = 30; bit > 0; bit--) {
            if (number >> bit != 0) {
                return bit;
            }
        }
        return 0;
    }

    // ---- saved states, parts of the text

    private void save() {
        if (savedStates >= MOST_SAVED) {
            dropOldest();
        }
        State next = isWithin(savedStates, 0, saved.length - 1) ? saved[savedStates] : null;
        if (next != null) {
            next.become(now);
            savedStates++;
        }
    }

    /** The oldest state's place is used again for the next one. */
    private void dropOldest() {
        for (int i = 0; i + 1 < saved.length; i++) {
            State oldest = saved[i];
            saved[i] = saved[i + 1];
            saved[i + 1] = oldest;
        }
        savedStates--;
    }

    private void restore(int index) {
        State state = isWithin(index, 0, saved.length - 1) ? saved[index] : null;
        if (state != null) {
            now.become(state);
        }
    }

    /** False if the part is an order, and no more orders can wait. */
    private boolean doPart() {
        if (scribe.letter == 't') {
            for (int i = 0; i < scribe.number; i++) {
                now.tick();
            }
            return true;
        }
        if (now.line.isFull()) {
            return false;
        }
        if (scribe.letter == 'e') {
            now.line.join(ERASE, scribe.number, scribe.urgency, now.ticks);
        } else {
            now.line.joinWrite(scribe.number, scribe.urgency, now.ticks, scribe.row);
        }
        return true;
    }

    // ---- ranges and rows

    private static boolean isWithin(int number, int least, int most) {
        return number >= least && number <= most;
    }

    private static boolean isCell(int number) {
        return isWithin(number, 0, CELLS - 1);
    }

    private static boolean isSector(int number) {
        return isWithin(number, 0, SECTORS - 1);
    }

    private static boolean isSetting(int number) {
        return isWithin(number, 0, FIRST_SETTINGS.length - 1);
    }

    private static boolean isPlace(int kind, int where) {
        if (kind == WRITE) {
            return isCell(where);
        }
        return kind == ERASE ? isSector(where) : isWithin(where, 0, HIGHEST_LEVEL);
    }

    /** The sector of a write or an erase. */
    private static int sectorOf(int kind, int where) {
        return kind == WRITE ? where / SECTOR_CELLS : where;
    }

    /** The cell so many steps behind another one, round its page. */
    private static int roundPage(int cell, int steps) {
        return cell / PAGE_CELLS * PAGE_CELLS + (cell + steps) % PAGE_CELLS;
    }

    /** What a row holds at an index; 0 outside of it, so that no index can ever leave a row. */
    private static int at(int[] row, int index) {
        return index >= 0 && index < row.length ? row[index] : 0;
    }

    private static void put(int[] row, int index, int value) {
        if (index >= 0 && index < row.length) {
            row[index] = value;
        }
    }

    /** A row of values, for the cells of a page from some first one on. */
    private static final class Row {
        final int[] values = new int[MOST_LOADED];
        int size = 0;

        void add(int value) {
            if (size >= 0 && size < values.length) {
                values[size] = value;
                size++;
            }
        }

        /** How many cells get a value. */
        int span() {
            return Math.min(size, PAGE_CELLS);
        }

        /** The value for the cell so many steps behind the first: of several the last one; NONE if it gets none. */
        int valueFor(int steps) {
            if (steps < 0 || steps >= size) {
                return NONE;
            }
            int timesRound = (size - 1 - steps) / PAGE_CELLS;
            return at(values, steps + timesRound * PAGE_CELLS);
        }

        void become(Row other) {
            System.arraycopy(other.values, 0, values, 0, Math.min(values.length, other.values.length));
            size = other.size;
        }
    }

    /** What the chip's cells hold, and what they have gone through. */
    private static final class Cells {
        final int[] held = new int[CELLS];
        final int[] stuck = new int[CELLS];
        final int[] erasures = new int[SECTORS];
        /** One bit for each page. */
        int unsure = 0;

        Cells() {
            Arrays.fill(held, ALL_BITS);
        }

        void become(Cells other) {
            System.arraycopy(other.held, 0, held, 0, Math.min(held.length, other.held.length));
            System.arraycopy(other.stuck, 0, stuck, 0, Math.min(stuck.length, other.stuck.length));
            System.arraycopy(other.erasures, 0, erasures, 0, Math.min(erasures.length, other.erasures.length));
            unsure = other.unsure;
        }

        /** Returns how many bits fell. */
        int fall(int cell, int value) {
            int before = at(held, cell);
            int after = before & value;
            put(held, cell, after);
            return Integer.bitCount(before) - Integer.bitCount(after);
        }

        /** Returns how many bits fell. */
        int fallWholly(int page) {
            int fallen = 0;
            for (int i = 0; i < PAGE_CELLS; i++) {
                fallen += fall(page * PAGE_CELLS + i, 0);
            }
            return fallen;
        }

        void endErase(int sector, int borneErasures) {
            int first = sector * SECTOR_CELLS;
            for (int i = first; i < first + SECTOR_CELLS; i++) {
                put(held, i, ALL_BITS & ~at(stuck, i));
            }
            unsure &= ~pagesOf(sector);
            int had = at(erasures, sector) + 1;
            put(erasures, sector, had);
            if (had > borneErasures) {
                int worn = first + had % SECTOR_CELLS;
                int bit = 1 << had % CELL_BITS;
                put(stuck, worn, at(stuck, worn) | bit);
                put(held, worn, at(held, worn) & ~bit);
            }
        }

        private static int pagesOf(int sector) {
            return ((1 << SECTOR_PAGES) - 1) << sector * SECTOR_PAGES;
        }

        void doubtPage(int page) {
            unsure |= 1 << page;
        }

        void doubtSector(int sector) {
            unsure |= pagesOf(sector);
        }

        boolean isUnsure(int page) {
            return (unsure >>> page & 1) == 1;
        }

        int unsurePages(int sector) {
            return Integer.bitCount(unsure & pagesOf(sector));
        }

        int ones(int first, int cells) {
            int ones = 0;
            for (int i = first; i < first + cells; i++) {
                ones += Integer.bitCount(at(held, i));
            }
            return ones;
        }

        int fallenPages(int sector) {
            int pages = 0;
            for (int page = sector * SECTOR_PAGES; page < (sector + 1) * SECTOR_PAGES; page++) {
                if (ones(page * PAGE_CELLS, PAGE_CELLS) < PAGE_CELLS * CELL_BITS) {
                    pages++;
                }
            }
            return pages;
        }

        int stuckBits() {
            int bits = 0;
            for (int i = 0; i < stuck.length; i++) {
                bits += Integer.bitCount(stuck[i]);
            }
            return bits;
        }

        int allErasures() {
            int sum = 0;
            for (int i = 0; i < erasures.length; i++) {
                sum += erasures[i];
            }
            return sum;
        }
    }

    private static final class Locks {
        int level = 0;
        int side = TOP;
        boolean frozen = false;

        boolean hold(int sector) {
            int locked = level > 0 ? 1 << level - 1 : 0;
            return side == TOP ? sector >= SECTORS - locked : sector < locked;
        }

        void become(Locks other) {
            level = other.level;
            side = other.side;
            frozen = other.frozen;
        }
    }

    /** A work that is under way or set aside, or the lack of one. */
    private static final class Work {
        int kind = NO_WORK;
        /** The first cell of a write, the sector of an erase, the level of a change of the locks. */
        int where = NONE;
        int side = TOP;
        int cellTicks = 1;
        int allTicks = 0;
        int ticksDone = 0;
        /** NONE for a work that was begun by hand. */
        int urgency = NONE;
        boolean asideByClerk = false;
        final Row row = new Row();

        void start(int newKind, int newWhere, int ticks, int newUrgency) {
            kind = newKind;
            where = newWhere;
            allTicks = ticks;
            ticksDone = 0;
            urgency = newUrgency;
            asideByClerk = false;
        }

        void startWrite(int cell, Row values, int ticksForCell, int newUrgency) {
            start(WRITE, cell, values.span() * ticksForCell, newUrgency);
            cellTicks = ticksForCell;
            row.become(values);
        }

        void end() {
            start(NO_WORK, NONE, 0, NONE);
        }

        int left() {
            return allTicks - ticksDone;
        }

        /** Whether a user would read the midst of this work in the cell. */
        boolean concerns(int cell) {
            if (kind == WRITE) {
                return cell / PAGE_CELLS == where / PAGE_CELLS;
            }
            return kind == ERASE && cell / SECTOR_CELLS == where;
        }

        void become(Work other) {
            kind = other.kind;
            where = other.where;
            side = other.side;
            cellTicks = other.cellTicks;
            allTicks = other.allTicks;
            ticksDone = other.ticksDone;
            urgency = other.urgency;
            asideByClerk = other.asideByClerk;
            row.become(other.row);
        }
    }

    /** An order that waits; its kind is that of the work that it becomes. */
    private static final class Order {
        int number = 0;
        int kind = NO_WORK;
        int where = 0;
        int urgency = 0;
        int postedAt = 0;
        final Row row = new Row();

        void become(Order other) {
            number = other.number;
            kind = other.kind;
            where = other.where;
            urgency = other.urgency;
            postedAt = other.postedAt;
            row.become(other.row);
        }
    }

    /** The orders that wait, the foremost one first. */
    private static final class Line {
        private final Order[] orders = new Order[MOST_ORDERS];
        int size = 0;
        private int posted = 0;

        Line() {
            for (int i = 0; i < orders.length; i++) {
                orders[i] = new Order();
            }
        }

        boolean isFull() {
            return size >= orders.length;
        }

        /** Null if there is no such rank. */
        Order orderAt(int rank) {
            return rank >= 0 && rank < size && rank < orders.length ? orders[rank] : null;
        }

        /** NONE if no order with this number waits. */
        int rankOf(int number) {
            for (int rank = 0; rank < size; rank++) {
                Order order = orderAt(rank);
                if (order != null && order.number == number) {
                    return rank;
                }
            }
            return NONE;
        }

        int ordersFor(int sector) {
            int found = 0;
            for (int rank = 0; rank < size; rank++) {
                Order order = orderAt(rank);
                if (order != null && sectorOf(order.kind, order.where) == sector) {
                    found++;
                }
            }
            return found;
        }

        /** Returns the number of the order. */
        int join(int kind, int where, int urgency, int ticks) {
            Order order = openPlace(urgency);
            if (order == null) {
                return NONE;
            }
            order.number = posted;
            order.kind = kind;
            order.where = where;
            order.urgency = urgency;
            order.postedAt = ticks;
            order.row.size = 0;
            posted++;
            return order.number;
        }

        /** Returns the number of the order. */
        int joinWrite(int cell, int urgency, int ticks, Row values) {
            int number = join(WRITE, cell, urgency, ticks);
            Order order = orderAt(rankOf(number));
            if (order != null) {
                order.row.become(values);
            }
            return number;
        }

        /** Makes room behind all orders that are at least as urgent; null if no more can wait. */
        private Order openPlace(int urgency) {
            if (size < 0 || size >= orders.length) {
                return null;
            }
            Order free = orders[size];
            int rank = size;
            while (rank > 0 && orders[rank - 1] != null && orders[rank - 1].urgency < urgency) {
                orders[rank] = orders[rank - 1];
                rank--;
            }
            orders[rank] = free;
            size++;
            return free;
        }

        void leave(int rank) {
            Order order = orderAt(rank);
            if (order == null) {
                return;
            }
            for (int i = rank + 1; i < size && i < orders.length; i++) {
                orders[i - 1] = orders[i];
            }
            size--;
            // the place that has become free keeps an object for a later order
            if (size >= 0 && size < orders.length) {
                orders[size] = order;
            }
        }

        void become(Line other) {
            size = other.size;
            posted = other.posted;
            for (int rank = 0; rank < size; rank++) {
                Order mine = orderAt(rank);
                Order its = other.orderAt(rank);
                if (mine != null && its != null) {
                    mine.become(its);
                }
            }
        }
    }

    /** All that undo restores. */
    private static final class State {
        final Cells cells = new Cells();
        final Locks locks = new Locks();
        final Row loaded = new Row();
        final Work under = new Work();
        final Work aside = new Work();
        final Line line = new Line();
        final int[] settings = FIRST_SETTINGS.clone();
        boolean armed = false;
        int ticks = 0;
        int writesEnded = 0;
        int bitsFallen = 0;
        int worksLost = 0;
        int timesAside = 0;

        void become(State other) {
            cells.become(other.cells);
            locks.become(other.locks);
            loaded.become(other.loaded);
            under.become(other.under);
            aside.become(other.aside);
            line.become(other.line);
            System.arraycopy(other.settings, 0, settings, 0, Math.min(settings.length, other.settings.length));
            armed = other.armed;
            ticks = other.ticks;
            writesEnded = other.writesEnded;
            bitsFallen = other.bitsFallen;
            worksLost = other.worksLost;
            timesAside = other.timesAside;
        }

        boolean isBusy() {
            return under.kind != NO_WORK;
        }

        int settingOf(int setting) {
            return at(settings, setting);
        }

        int eraseTicks(int sector) {
            return SECTOR_PAGES + settingOf(ERASE_TICKS) + at(cells.erasures, sector) / 4;
        }

        /** Why a work can not be begun by hand; 0 if it can. */
        int hindrance(int kind, int where) {
            if (isBusy()) {
                return 1;
            }
            if (!armed) {
                return 2;
            }
            if (kind == LOCKS_CHANGE ? locks.frozen : locks.hold(sectorOf(kind, where))) {
                return 3;
            }
            if (!asideAllows(kind, where)) {
                return 4;
            }
            return kind == WRITE && loaded.size == 0 ? 5 : 0;
        }

        private boolean asideAllows(int kind, int where) {
            if (aside.kind == NO_WORK) {
                return true;
            }
            return aside.kind == ERASE && kind == WRITE && sectorOf(kind, where) != aside.where;
        }

        void setAside(boolean byClerk) {
            aside.become(under);
            aside.asideByClerk = byClerk;
            under.end();
            timesAside++;
        }

        void letGoOn() {
            under.become(aside);
            under.asideByClerk = false;
            aside.end();
        }

        /** Returns how many works are lost. */
        int losePower() {
            int lost = lose(under) + lose(aside);
            worksLost += lost;
            armed = false;
            locks.frozen = false;
            loaded.size = 0;
            return lost;
        }

        private int lose(Work work) {
            if (work.kind == NO_WORK) {
                return 0;
            }
            if (work.kind == WRITE) {
                cells.doubtPage(work.where / PAGE_CELLS);
            } else if (work.kind == ERASE) {
                cells.doubtSector(work.where);
            }
            work.end();
            return 1;
        }

        /** Lets a tick pass; true if a work went on in it. */
        boolean tick() {
            int rank = clerkChooses();
            if (rank != NONE) {
                beginOrder(rank);
            }
            ticks++;
            if (!isBusy()) {
                return false;
            }
            under.ticksDone++;
            if (under.kind == WRITE) {
                goOnWriting();
            } else if (under.kind == ERASE && under.ticksDone <= SECTOR_PAGES) {
                bitsFallen += cells.fallWholly(under.where * SECTOR_PAGES + under.ticksDone - 1);
            }
            if (under.left() <= 0) {
                endWork();
            }
            return true;
        }

        /** Lets the clerk set aside or go on what he has to; returns the order that he begins, NONE if none. */
        private int clerkChooses() {
            if (isBusy()) {
                boolean mayWait = under.kind == ERASE && under.urgency != NONE && aside.kind == NO_WORK;
                int rank = mayWait ? foremostPressing(under) : NONE;
                if (rank != NONE) {
                    setAside(true);
                }
                return rank;
            }
            if (aside.kind == NO_WORK) {
                return foremost();
            }
            int rank = aside.asideByClerk ? foremostPressing(aside) : NONE;
            if (aside.asideByClerk && rank == NONE) {
                letGoOn();
            }
            return rank;
        }

        /** The foremost order that is not for a locked sector; NONE if there is none. */
        private int foremost() {
            for (int rank = 0; rank < line.size; rank++) {
                if (isOpen(line.orderAt(rank))) {
                    return rank;
                }
            }
            return NONE;
        }

        private int foremostPressing(Work erase) {
            int leastUrgency = erase.urgency + settingOf(PRESSING_BY);
            for (int rank = 0; rank < line.size; rank++) {
                Order order = line.orderAt(rank);
                if (order != null && order.urgency >= leastUrgency && order.kind == WRITE
                        && sectorOf(WRITE, order.where) != erase.where && isOpen(order)) {
                    return rank;
                }
            }
            return NONE;
        }

        private boolean isOpen(Order order) {
            return order != null && !locks.hold(sectorOf(order.kind, order.where));
        }

        private void beginOrder(int rank) {
            Order order = line.orderAt(rank);
            if (order == null) {
                return;
            }
            if (order.kind == WRITE) {
                under.startWrite(order.where, order.row, settingOf(CELL_TICKS), order.urgency);
            } else {
                under.start(ERASE, order.where, eraseTicks(order.where), order.urgency);
            }
            line.leave(rank);
        }

        private void goOnWriting() {
            int pace = under.cellTicks;
            if (pace > 0 && under.ticksDone % pace == 0) {
                int steps = under.ticksDone / pace - 1;
                bitsFallen += cells.fall(roundPage(under.where, steps), under.row.valueFor(steps));
            }
        }

        private void endWork() {
            if (under.kind == WRITE) {
                writesEnded++;
            } else if (under.kind == ERASE) {
                cells.endErase(under.where, settingOf(BORNE_ERASURES));
            } else {
                locks.level = under.where;
                locks.side = under.side;
            }
            under.end();
        }

        /** Whether nothing is to be done any more, but what waits for a hand. */
        boolean isFree() {
            boolean clerkHasAside = aside.kind != NO_WORK && aside.asideByClerk;
            return !isBusy() && !clerkHasAside && foremost() == NONE;
        }

        int missesAt(int cell) {
            int misses = 0;
            int span = loaded.span();
            for (int steps = 0; steps < span; steps++) {
                int value = loaded.valueFor(steps);
                if ((at(cells.held, roundPage(cell, steps)) & value) != value) {
                    misses++;
                }
            }
            return misses;
        }
    }

    /** Reads orders as a text character by character, and holds the part that it is in. */
    private static final class Scribe {
        private static final int BEFORE_PART = 0;
        private static final int BEFORE_NUMBER = 1;
        private static final int IN_NUMBER = 2;
        private static final int BEFORE_VALUES = 3;
        private static final int IN_VALUE = 4;
        private static final int BEHIND_VALUE = 5;
        private static final int BEFORE_URGENCY = 6;
        private static final int BEHIND_URGENCY = 7;

        private static final int USUAL_URGENCY = 5;
        private static final int MOST_VALUES = 8;

        private int place = BEFORE_PART;
        char letter = 't';
        /** The first cell, the sector, or the ticks. */
        int number = 0;
        int urgency = USUAL_URGENCY;
        final Row row = new Row();
        private int upperFigure = 0;

        void start() {
            place = BEFORE_PART;
        }

        boolean isComplete() {
            return place == BEHIND_VALUE || place == BEHIND_URGENCY || place == IN_NUMBER && letter != 'w';
        }

        /** False if the character is a syntax error. */
        boolean goesOnWith(char next) {
            switch (place) {
                case BEFORE_PART: return opensPart(next);
                case BEFORE_NUMBER: return opensNumber(next);
                case IN_NUMBER: return goesOnBehindDigit(next);
                case BEFORE_VALUES: return opensValue(next);
                case IN_VALUE: return endsValue(next);
                case BEHIND_VALUE: return goesOnBehindValue(next);
                case BEFORE_URGENCY: return tellsUrgency(next);
                default: return endsPart(next, false);
            }
        }

        private boolean opensPart(char next) {
            if (next != 'w' && next != 'e' && next != 't') {
                return false;
            }
            letter = next;
            number = 0;
            urgency = USUAL_URGENCY;
            row.size = 0;
            place = BEFORE_NUMBER;
            return true;
        }

        private boolean opensNumber(char next) {
            int digit = figure(next, 10);
            int least = letter == 't' ? 1 : 0;
            if (digit < least || digit > mostNumber()) {
                return false;
            }
            number = digit;
            place = IN_NUMBER;
            return true;
        }

        private int mostNumber() {
            if (letter == 'w') {
                return CELLS - 1;
            }
            return letter == 'e' ? SECTORS - 1 : 99;
        }

        private boolean goesOnBehindDigit(char next) {
            int digit = figure(next, 10);
            if (digit != NONE) {
                return lengthensNumber(digit);
            }
            if (letter != 'w') {
                return endsPart(next, letter == 'e');
            }
            place = BEFORE_VALUES;
            return next == ':';
        }

        private boolean lengthensNumber(int digit) {
            int longer = number * 10 + digit;
            if (number == 0 || longer > mostNumber()) {
                return false;
            }
            number = longer;
            return true;
        }

        private boolean opensValue(char next) {
            upperFigure = figure(next, 16);
            place = IN_VALUE;
            return upperFigure != NONE;
        }

        private boolean endsValue(char next) {
            int lowerFigure = figure(next, 16);
            if (lowerFigure == NONE) {
                return false;
            }
            row.add(upperFigure * 16 + lowerFigure);
            place = BEHIND_VALUE;
            return true;
        }

        private boolean goesOnBehindValue(char next) {
            return row.size < MOST_VALUES && figure(next, 16) != NONE ? opensValue(next) : endsPart(next, true);
        }

        private boolean endsPart(char next, boolean mayBeUrgent) {
            if (next == '!' && mayBeUrgent) {
                place = BEFORE_URGENCY;
                return true;
            }
            place = BEFORE_PART;
            return next == ';';
        }

        private boolean tellsUrgency(char next) {
            urgency = figure(next, 10);
            place = BEHIND_URGENCY;
            return urgency != NONE;
        }

        /** The figure to the base 10 or 16; NONE if it is none. */
        private static int figure(char sign, int base) {
            if (sign >= '0' && sign <= '9') {
                return sign - '0';
            }
            return base == 16 && sign >= 'a' && sign <= 'f' ? sign - 'a' + 10 : NONE;
        }
    }
}
