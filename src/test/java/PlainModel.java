import java.util.ArrayList;
import java.util.Comparator;
import java.util.HashMap;
import java.util.List;
import java.util.Map;
import java.util.TreeMap;
import java.util.regex.Matcher;
import java.util.regex.Pattern;

/** The document once more, read naively and without a thought for room or speed; tests compare with it. */
final class PlainModel {
    private static final String WRITE = "w(?:0|[1-9][0-9]?|1[0-9][0-9]|2[0-4][0-9]|25[0-5]):(?:[0-9a-f]{2}){1,8}(?:![0-9])?";
    private static final String PART = "(?:" + WRITE + "|e[0-7](?:![0-9])?|t[1-9][0-9]?)";
    private static final Pattern ORDERS = Pattern.compile(PART + "(?:;" + PART + ")*");

    /** A work: what each of its ticks does to cells, as pairs of a cell and a mask. */
    private static final class Job {
        int kind;
        int where;
        int side;
        int urgency = -1;
        boolean clerkSetAside;
        int gone = 0;
        List<Map<Integer, Integer>> ticks = new ArrayList<>();

        Job copy() {
            Job job = new Job();
            job.kind = kind;
            job.where = where;
            job.side = side;
            job.urgency = urgency;
            job.clerkSetAside = clerkSetAside;
            job.gone = gone;
            job.ticks = ticks;
            return job;
        }

        int left() {
            return ticks.size() - gone;
        }
    }

    private record Order(int number, int kind, int where, int urgency, int posted, List<Integer> values) {
        int sector() {
            return kind == 0 ? where / 32 : where;
        }
    }

    private static final class World {
        int[] held = new int[256];
        int[] stuck = new int[256];
        boolean[] unsure = new boolean[32];
        int[] erasures = new int[8];
        int[] settings = {2, 20, 30, 5, 3};
        int level = 0;
        int side = 1;
        boolean frozen;
        boolean armed;
        List<Integer> loaded = new ArrayList<>();
        List<Order> orders = new ArrayList<>();
        Job under;
        Job aside;
        Map<String, Integer> counts = new HashMap<>();

        World copy() {
            World world = new World();
            world.held = held.clone();
            world.stuck = stuck.clone();
            world.unsure = unsure.clone();
            world.erasures = erasures.clone();
            world.settings = settings.clone();
            world.level = level;
            world.side = side;
            world.frozen = frozen;
            world.armed = armed;
            world.loaded = new ArrayList<>(loaded);
            world.orders = new ArrayList<>(orders);
            world.under = under == null ? null : under.copy();
            world.aside = aside == null ? null : aside.copy();
            world.counts = new HashMap<>(counts);
            return world;
        }

        int counted(String what) {
            return counts.getOrDefault(what, 0);
        }

        void more(String what, int by) {
            counts.merge(what, by, Integer::sum);
        }

        boolean locked(int sector) {
            int many = new int[] {0, 1, 2, 4, 8}[level];
            return side == 1 ? sector > 7 - many : sector < many;
        }

        Job writeJob(int first, List<Integer> values) {
            Job job = new Job();
            job.kind = 1;
            job.where = first;
            Map<Integer, Integer> last = new HashMap<>();
            List<Integer> cells = new ArrayList<>();
            int cell = first;
            for (int value : values) {
                if (!last.containsKey(cell)) {
                    cells.add(cell);
                }
                last.put(cell, value);
                cell = cell % 8 == 7 ? cell - 7 : cell + 1;
            }
            for (int one : cells) {
                for (int i = 1; i < settings[0]; i++) {
                    job.ticks.add(Map.of());
                }
                job.ticks.add(Map.of(one, last.get(one)));
            }
            return job;
        }

        Job eraseJob(int sector) {
            Job job = new Job();
            job.kind = 2;
            job.where = sector;
            for (int page = 0; page < 4; page++) {
                Map<Integer, Integer> fall = new TreeMap<>();
                for (int i = 0; i < 8; i++) {
                    fall.put(32 * sector + 8 * page + i, 0);
                }
                job.ticks.add(fall);
            }
            for (int i = 0; i < settings[1] + erasures[sector] / 4; i++) {
                job.ticks.add(Map.of());
            }
            return job;
        }

        Job lockJob(int newLevel, int newSide) {
            Job job = new Job();
            job.kind = 3;
            job.where = newLevel;
            job.side = newSide;
            for (int i = 0; i < settings[3]; i++) {
                job.ticks.add(Map.of());
            }
            return job;
        }

        List<Order> ranked() {
            List<Order> ranked = new ArrayList<>(orders);
            ranked.sort(Comparator.comparingInt((Order order) -> -order.urgency()).thenComparingInt(Order::number));
            return ranked;
        }

        Order foremost(Job pressed) {
            for (Order order : ranked()) {
                boolean presses = pressed == null || order.kind() == 0 && order.sector() != pressed.where
                        && order.urgency() >= pressed.urgency + settings[4];
                if (!locked(order.sector()) && presses) {
                    return order;
                }
            }
            return null;
        }

        void beginOrder(Order order) {
            orders.remove(order);
            under = order.kind() == 0 ? writeJob(order.where(), order.values()) : eraseJob(order.where());
            under.urgency = order.urgency();
        }

        void clerk() {
            if (under != null && under.kind == 2 && under.urgency >= 0 && aside == null && foremost(under) != null) {
                Order order = foremost(under);
                aside = under;
                aside.clerkSetAside = true;
                more("aside", 1);
                beginOrder(order);
            } else if (under != null || aside != null && !aside.clerkSetAside) {
                return;
            } else if (aside != null) {
                if (foremost(aside) != null) {
                    beginOrder(foremost(aside));
                } else {
                    goOn();
                }
            } else if (foremost(null) != null) {
                beginOrder(foremost(null));
            }
        }

        void goOn() {
            under = aside;
            under.clerkSetAside = false;
            aside = null;
        }

        boolean tick() {
            clerk();
            more("ticks", 1);
            if (under == null) {
                return false;
            }
            for (Map.Entry<Integer, Integer> fall : under.ticks.get(under.gone).entrySet()) {
                int was = held[fall.getKey()];
                held[fall.getKey()] = was & fall.getValue();
                more("fallen", Integer.bitCount(was ^ held[fall.getKey()]));
            }
            under.gone++;
            if (under.left() == 0) {
                Job ended = under;
                under = null;
                ended(ended);
            }
            return true;
        }

        void ended(Job job) {
            if (job.kind == 1) {
                more("writes", 1);
            } else if (job.kind == 3) {
                level = job.where;
                side = job.side;
            } else {
                for (int i = 0; i < 32; i++) {
                    held[32 * job.where + i] = 255 - stuck[32 * job.where + i];
                    unsure[(32 * job.where + i) / 8] = false;
                }
                int n = ++erasures[job.where];
                if (n > settings[2]) {
                    int cell = 32 * job.where + n % 32;
                    stuck[cell] |= 1 << n % 8;
                    held[cell] = 255 - stuck[cell];
                }
            }
        }

        void lose(Job job) {
            if (job.kind == 1) {
                unsure[job.where / 8] = true;
            }
            for (int page = 0; job.kind == 2 && page < 4; page++) {
                unsure[4 * job.where + page] = true;
            }
            more("lost", 1);
        }

        boolean free() {
            return under == null && (aside == null || !aside.clerkSetAside) && foremost(null) == null;
        }

        int why(int kind, int where) {
            if (under != null) {
                return 1;
            }
            if (!armed) {
                return 2;
            }
            if (kind == 3 ? frozen : locked(kind == 1 ? where / 32 : where)) {
                return 3;
            }
            if (aside != null && (aside.kind == 1 || kind != 1 || where / 32 == aside.where)) {
                return 4;
            }
            return kind == 1 && loaded.isEmpty() ? 5 : 0;
        }

        int misses(int cell) {
            Map<Integer, Integer> last = new HashMap<>();
            for (Map<Integer, Integer> tick : writeJob(cell, loaded).ticks) {
                last.putAll(tick);
            }
            int misses = 0;
            for (Map.Entry<Integer, Integer> one : last.entrySet()) {
                misses += (held[one.getKey()] & one.getValue()) != one.getValue() ? 1 : 0;
            }
            return misses;
        }
    }

    private World world = new World();
    private World snapshot = null;
    private final ArrayList<World> saved = new ArrayList<>();
    private String text = "";

    PlainModel() {
        java.util.Arrays.fill(world.held, 255);
    }

    private void save() {
        saved.add(world.copy());
        if (saved.size() > 6) {
            saved.remove(0);
        }
    }

    private static void argument(boolean holds) {
        if (!holds) {
            throw new IllegalArgumentException();
        }
    }

    private static void index(boolean holds) {
        if (!holds) {
            throw new IndexOutOfBoundsException();
        }
    }

    private static void state(boolean holds) {
        if (!holds) {
            throw new IllegalStateException();
        }
    }

    private static boolean in(int number, int least, int most) {
        return least <= number && number <= most;
    }

    int arm() {
        state(world.under == null);
        save();
        int was = world.armed ? 1 : 0;
        world.armed = true;
        return was;
    }

    int load(int value) {
        argument(in(value, 0, 255));
        state(world.loaded.size() < 12);
        save();
        world.loaded.add(value);
        return world.loaded.size();
    }

    int unload() {
        save();
        int many = world.loaded.size();
        world.loaded.clear();
        return many;
    }

    private int begin(Job job) {
        world.under = job;
        world.armed = false;
        return job.left();
    }

    int write(int cell) {
        index(in(cell, 0, 255));
        state(world.why(1, cell) == 0);
        save();
        Job job = world.writeJob(cell, world.loaded);
        world.loaded.clear();
        return begin(job);
    }

    int erase(int sector) {
        index(in(sector, 0, 7));
        state(world.why(2, sector) == 0);
        save();
        return begin(world.eraseJob(sector));
    }

    int lock(int level, int side) {
        argument(in(level, 0, 4) && in(side, 0, 1));
        state(world.why(3, level) == 0);
        save();
        return begin(world.lockJob(level, side));
    }

    int freeze() {
        state(world.under == null);
        save();
        int was = world.frozen ? 1 : 0;
        world.frozen = true;
        return was;
    }

    int suspend() {
        state(world.under != null && world.under.kind != 3 && world.aside == null);
        save();
        world.aside = world.under;
        world.aside.clerkSetAside = false;
        world.under = null;
        world.more("aside", 1);
        return world.aside.left();
    }

    int resume() {
        state(world.aside != null && world.under == null);
        save();
        world.goOn();
        return world.under.left();
    }

    int cut() {
        save();
        int before = world.counted("lost");
        if (world.under != null) {
            world.lose(world.under);
        }
        if (world.aside != null) {
            world.lose(world.aside);
        }
        world.under = null;
        world.aside = null;
        world.armed = false;
        world.frozen = false;
        world.loaded.clear();
        return world.counted("lost") - before;
    }

    private int join(int kind, int where, int urgency, List<Integer> values) {
        int number = world.counted("posted");
        world.more("posted", 1);
        world.orders.add(new Order(number, kind, where, urgency, world.counted("ticks"), values));
        return number;
    }

    int post(int kind, int where, int urgency) {
        argument(in(kind, 0, 1) && in(urgency, 0, 9));
        index(in(where, 0, kind == 0 ? 255 : 7));
        state(world.orders.size() < 10 && (kind == 1 || !world.loaded.isEmpty()));
        save();
        int number = join(kind, where, urgency, kind == 0 ? new ArrayList<>(world.loaded) : List.of());
        if (kind == 0) {
            world.loaded.clear();
        }
        return number;
    }

    int withdraw(int number) {
        index(world.orders.stream().anyMatch(order -> order.number() == number));
        save();
        world.orders.removeIf(order -> order.number() == number);
        return world.orders.size();
    }

    int pass(int ticks) {
        argument(in(ticks, 1, 200));
        save();
        int wentOn = 0;
        for (int i = 0; i < ticks; i++) {
            wentOn += world.tick() ? 1 : 0;
        }
        return wentOn;
    }

    int set(int setting, int value) {
        index(in(setting, 0, 4));
        argument(in(value, 1, new int[] {9, 99, 99, 20, 9}[setting]));
        save();
        int was = world.settings[setting];
        world.settings[setting] = value;
        return was;
    }

    int append(int code) {
        argument(in(code, 33, 126));
        state(text.length() < 60);
        text += (char) code;
        return text.length();
    }

    int clearBuffer() {
        int length = text.length();
        text = "";
        return length;
    }

    int firstError() {
        for (int i = 1; i <= text.length(); i++) {
            Matcher matcher = ORDERS.matcher(text.substring(0, i));
            if (!matcher.matches() && !matcher.hitEnd()) {
                return i - 1;
            }
        }
        return text.length();
    }

    int obey() {
        argument(ORDERS.matcher(text).matches());
        save();
        int done = 0;
        for (String part : text.split(";")) {
            if (part.charAt(0) == 't') {
                for (int i = Integer.parseInt(part.substring(1)); i > 0; i--) {
                    world.tick();
                }
            } else if (world.orders.size() == 10) {
                break;
            } else {
                obeyOrder(part);
            }
            done++;
        }
        text = "";
        return done;
    }

    private void obeyOrder(String part) {
        String[] urgent = part.substring(1).split("!");
        int urgency = urgent.length == 2 ? Integer.parseInt(urgent[1]) : 5;
        String[] row = urgent[0].split(":");
        List<Integer> values = new ArrayList<>();
        for (int i = 0; row.length == 2 && i < row[1].length(); i += 2) {
            values.add(Integer.parseInt(row[1].substring(i, i + 2), 16));
        }
        join(part.charAt(0) == 'w' ? 0 : 1, Integer.parseInt(row[0]), urgency, values);
    }

    int keep() {
        snapshot = world.copy();
        return world.counted("ticks");
    }

    int goBack() {
        state(snapshot != null);
        save();
        world = snapshot.copy();
        return world.counted("ticks");
    }

    int undo() {
        state(!saved.isEmpty());
        world = saved.remove(saved.size() - 1);
        return saved.size();
    }

    int read(int cell) {
        index(in(cell, 0, 255));
        Job aside = world.aside;
        state(world.under == null && (aside == null || (aside.kind == 1 ? aside.where / 8 != cell / 8 : aside.where != cell / 32)));
        return world.held[cell];
    }

    int cell(int cell, int what) {
        index(in(cell, 0, 255));
        argument(in(what, 0, 3));
        int get = -1;
        for (int i = cell % 8; i < world.loaded.size(); i += 8) {
            get = world.loaded.get(i);
        }
        return new int[] {world.held[cell], world.stuck[cell], world.unsure[cell / 8] ? 1 : 0, get}[what];
    }

    int sector(int sector, int what) {
        index(in(sector, 0, 7));
        argument(in(what, 0, 6));
        int ones = 0;
        int unsure = 0;
        int fallenPages = 0;
        for (int page = 4 * sector; page < 4 * sector + 4; page++) {
            boolean fallen = false;
            for (int cell = 8 * page; cell < 8 * page + 8; cell++) {
                ones += Integer.bitCount(world.held[cell]);
                fallen |= world.held[cell] != 255;
            }
            fallenPages += fallen ? 1 : 0;
            unsure += world.unsure[page] ? 1 : 0;
        }
        int waiting = (int) world.orders.stream().filter(order -> order.sector() == sector).count();
        return new int[] {world.erasures[sector], world.locked(sector) ? 1 : 0, ones, fallenPages, unsure,
            4 + world.settings[1] + world.erasures[sector] / 4, waiting}[what];
    }

    int work(int aside, int what) {
        argument(in(aside, 0, 1) && in(what, 0, 4));
        Job job = aside == 1 ? world.aside : world.under;
        if (job == null) {
            return new int[] {0, -1, 0, -1, 0}[what];
        }
        return new int[] {job.kind, job.where, job.left(), job.urgency, job.clerkSetAside ? 1 : 0}[what];
    }

    int order(int rank, int what) {
        index(in(rank, 0, world.orders.size() - 1));
        argument(in(what, 0, 5));
        Order order = world.ranked().get(rank);
        return new int[] {order.number(), order.kind(), order.where(), order.urgency(),
            world.counted("ticks") - order.posted(), order.values().size()}[what];
    }

    private static int bits(int[] row) {
        int bits = 0;
        for (int one : row) {
            bits += Integer.bitCount(one);
        }
        return bits;
    }

    private int allErasures() {
        return java.util.Arrays.stream(world.erasures).sum();
    }

    int count(int what) {
        argument(in(what, 0, 15));
        int unsure = 0;
        for (boolean one : world.unsure) {
            unsure += one ? 1 : 0;
        }
        return new int[] {world.counted("ticks"), world.armed ? 1 : 0, world.frozen ? 1 : 0, world.level, world.side,
            bits(world.held), allErasures(), world.counted("writes"), world.counted("fallen"), world.counted("lost"),
            world.orders.size(), world.loaded.size(), bits(world.stuck), unsure, world.counted("aside"),
            saved.size()}[what];
    }

    int setting(int setting) {
        index(in(setting, 0, 4));
        return world.settings[setting];
    }

    int why(int kind, int where) {
        argument(in(kind, 1, 3));
        index(in(where, 0, new int[] {0, 255, 7, 4}[kind]));
        return world.why(kind, where);
    }

    int misses(int cell) {
        index(in(cell, 0, 255));
        return world.misses(cell);
    }

    int fits() {
        for (int cell = 0; cell < 256; cell++) {
            if (!world.locked(cell / 32) && world.misses(cell) == 0) {
                return cell;
            }
        }
        return -1;
    }

    int freeIn() {
        World later = world.copy();
        for (int ticks = 0; ticks <= 1000; ticks++) {
            if (later.free()) {
                return ticks;
            }
            later.tick();
        }
        return -1;
    }

    int leastWorn() {
        int best = -1;
        for (int sector = 7; sector >= 0; sector--) {
            if (!world.locked(sector) && (best < 0 || world.erasures[sector] <= world.erasures[best])) {
                best = sector;
            }
        }
        return best;
    }

    int commonest() {
        TreeMap<Integer, Integer> many = new TreeMap<>();
        for (int value : world.held) {
            many.merge(value, 1, Integer::sum);
        }
        int most = many.values().stream().max(Comparator.naturalOrder()).orElse(0);
        return many.entrySet().stream().filter(one -> one.getValue() == most).findFirst().get().getKey();
    }

    double onesShare() {
        return (double) bits(world.held) / 2048;
    }

    float meanWear() {
        return (float) allErasures() / 8;
    }

    long digest() {
        List<Long> values = new ArrayList<>();
        for (int what = 0; what <= 15; what++) {
            values.add((long) count(what));
        }
        for (int i = 0; i <= 4; i++) {
            values.add((long) setting(i));
        }
        for (int cell = 0; cell < 256; cell++) {
            values.add((long) cell(cell, 0));
            values.add((long) cell(cell, 1));
        }
        for (int i = 0; i < 56; i++) {
            values.add((long) sector(i / 7, i % 7));
        }
        for (int i = 0; i < 10; i++) {
            values.add((long) work(i / 5, i % 5));
        }
        for (int i = 0; i < 6 * world.orders.size(); i++) {
            values.add((long) order(i / 6, i % 6));
        }
        for (int value : world.loaded) {
            values.add((long) value);
        }
        for (int kind = 1; kind <= 3; kind++) {
            values.add((long) why(kind, 0));
        }
        values.add((long) misses(0));
        values.add((long) fits());
        values.add((long) freeIn());
        values.add((long) leastWorn());
        values.add((long) commonest());
        values.add(Double.doubleToLongBits(onesShare()));
        values.add((long) Float.floatToIntBits(meanWear()));
        values.add(snapshot == null ? 0L : 1L);
        values.add((long) text.length());
        for (char one : text.toCharArray()) {
            values.add((long) one);
        }
        long hash = 3607;
        for (long value : values) {
            hash = 31 * hash + value;
        }
        return hash;
    }
}
