import java.util.ArrayList;
import java.util.Arrays;
import java.util.Comparator;
import java.util.List;

/**
 * The document once more, written without any thought of speed or room: every order is fired, every
 * changed row is made, every check looks at the whole row. AgainstPlainTest holds KitchenBell against it.
 */
final class PlainKitchen {
    static final class Food {
        int kind, size, colour, time, hands, heat, served = -2, left;
        int[] needs = new int[8];
    }

    static final class Eater {
        int number, rank, appetite, rights;
        int[] has = new int[20];
    }

    static final class Over {
        int food, e = -2, which = -2;
    }

    private final List<Food> foods = new ArrayList<>();
    private final List<Eater> eaters = new ArrayList<>();
    private final int[] stock = new int[8];
    private final boolean[] failed = new boolean[8];
    private final int[] have = {1, 1, 1, 4, 2};
    private final Object[] shelf = new Object[8];
    private int day = 0;
    private int gap = 7;
    private List<Integer> chosen = new ArrayList<>();
    private int[] table = null;
    private List<Over> latest = null;
    private int tries;

    private static boolean in(int n, int a, int b) {
        return a <= n && n <= b;
    }

    private boolean food(int d) {
        return in(d, 0, foods.size() - 1);
    }

    int dish(int told, int size, int fire, int heat) {
        boolean cold = told < 10;
        if (told < 0 || told / 10 > 4 || told % 10 > 4 || !in(size, 1, 3)) return -1;
        if (!cold && (fire < 0 || !in(fire / 10, 1, 12) || !in(fire % 10, 1, 3))) return -1;
        if (told / 10 == 3 && !in(heat, 1, 9)) return -1;
        if (foods.size() == 20) return -2;
        Food f = new Food();
        f.kind = told / 10;
        f.colour = told % 10;
        f.size = size;
        f.time = cold ? 0 : fire / 10 + (f.kind == 4 ? 1 : 0);
        f.hands = cold ? 0 : fire % 10 + (f.kind == 4 ? 1 : 0);
        f.heat = f.kind == 3 ? heat : 0;
        foods.add(f);
        return foods.size() - 1;
    }

    int needs(int d, int g, int n) {
        if (!food(d) || !in(g, 0, 7) || !in(n, 0, 9)) return -1;
        int before = foods.get(d).needs[g];
        foods.get(d).needs[g] = n;
        return before;
    }

    int store(int g, int n) {
        if (!in(g, 0, 7) || !in(n, 1, 1000)) return -1;
        return stock[g] + n > 100000 ? -2 : (stock[g] += n);
    }

    int fail(int g, boolean is) {
        if (!in(g, 0, 7)) return -1;
        boolean was = failed[g];
        failed[g] = is;
        return was != is ? 1 : 0;
    }

    int gap(int n) {
        if (!in(n, 0, 30)) return -1;
        int before = gap;
        gap = n;
        return before;
    }

    int day(int n) {
        if (!in(n, 1, 100)) return -1;
        return day + n > 100000 ? -2 : (day += n);
    }

    private boolean can(int d) {
        Food f = foods.get(d);
        for (int g = 0; g < 8; g++) {
            if (f.needs[g] > 0 && failed[g] || f.needs[g] > stock[g]) return false;
        }
        boolean lately = f.served != -2 && f.served > day - gap;
        return !lately;
    }

    int look(int d, int what) {
        if (!food(d) || !in(what, 0, 8)) return -1;
        Food f = foods.get(d);
        int at = chosen.indexOf(d);
        return new int[] {f.kind, f.size, f.colour, f.time, f.hands, f.heat, f.served, can(d) ? 1 : 0, at < 0 ? -2 : at}[what];
    }

    int good(int d, int g) {
        if (!in(g, 0, 7) || d != -1 && !food(d)) return -1;
        return d == -1 ? stock[g] : foods.get(d).needs[g];
    }

    int choose(int d) {
        if (!food(d)) return -1;
        if (chosen.size() == 9) return -2;
        if (!can(d) || chosen.contains(d)) return -3;
        chosen.add(d);
        table = null;
        return chosen.size();
    }

    int leave(int d) {
        if (!food(d)) return -1;
        if (!chosen.contains(d)) return -3;
        chosen.remove((Integer) d);
        table = null;
        return chosen.size();
    }

    /** Whether all is right among the first so many of a row for n places. */
    private boolean right(int[] row, int filled, int n) {
        for (int i = 0; i < filled; i++) {
            Food f = foods.get(row[i]);
            if (i + 1 < filled && f.kind == foods.get(row[i + 1]).kind) return false;
            int m = n - 1 - i;
            if (m < filled && (f.size != foods.get(row[m]).size || f.colour != foods.get(row[m]).colour)) return false;
        }
        return true;
    }

    /** All layings that tries find, in their order; null where they are spent. */
    private List<int[]> tryAll(boolean one) {
        tries = 0;
        List<Integer> sorted = new ArrayList<>(chosen);
        sorted.sort(Comparator.naturalOrder());
        List<int[]> found = new ArrayList<>();
        return tryFrom(sorted, new int[0], found, one) ? found : null;
    }

    private boolean tryFrom(List<Integer> rest, int[] row, List<int[]> found, boolean one) {
        if (rest.isEmpty()) {
            found.add(row);
            return true;
        }
        for (Integer d : rest) {
            if (one && !found.isEmpty()) return true;
            if (++tries > 50000) return false;
            int[] longer = Arrays.copyOf(row, row.length + 1);
            longer[row.length] = d;
            if (!right(longer, longer.length, chosen.size())) continue;
            List<Integer> less = new ArrayList<>(rest);
            less.remove(d);
            if (!tryFrom(less, longer, found, one)) return false;
        }
        return true;
    }

    int lay() {
        List<int[]> found = tryAll(true);
        if (found == null) return -5;
        if (found.isEmpty()) return -4;
        table = found.get(0);
        return tries;
    }

    int layings() {
        List<int[]> found = tryAll(false);
        return found == null ? -5 : found.size();
    }

    /** What lay() answers if the dishes 0 .. n - 1 of a kitchen are those chosen, whatever they need. */
    static int triesOf(KitchenBell b, int n) {
        PlainKitchen plain = new PlainKitchen();
        for (int d = 0; d < n; d++) {
            Food f = new Food();
            f.kind = b.look(d, 0);
            f.size = b.look(d, 1);
            f.colour = b.look(d, 2);
            plain.foods.add(f);
            plain.chosen.add(d);
        }
        return plain.lay();
    }

    private boolean noPlace(int i) {
        return !in(i, 0, table == null ? 8 : table.length - 1);
    }

    int place(int i) {
        if (noPlace(i)) return -1;
        return table == null ? -3 : table[i];
    }

    int swap(int i, int j) {
        if (noPlace(i) || noPlace(j)) return -1;
        if (table == null) return -3;
        int[] row = table.clone();
        row[i] = table[j];
        row[j] = table[i];
        if (!right(row, row.length, row.length)) return -4;
        table = row;
        return 1;
    }

    int change() {
        if (table == null) return -3;
        for (int k = 0; k <= Math.min(3, table.length); k++) {
            List<int[]> rows = new ArrayList<>();
            changed(table.clone(), 0, k, rows);
            int[] best = null;
            for (int[] row : rows) {
                if (best == null || Arrays.compare(row, best) < 0) best = row;
            }
            if (best != null) {
                table = best;
                chosen = new ArrayList<>();
                for (int d : best) chosen.add(d);
                return k;
            }
        }
        return -4;
    }

    /** Makes all rows that differ from the table at just k places from a place on, and keeps the layings. */
    private void changed(int[] row, int from, int k, List<int[]> rows) {
        if (k == 0) {
            boolean good = right(row, row.length, row.length);
            for (int i = 0; i < row.length && good; i++) {
                good = can(row[i]);
                for (int j = 0; j < i; j++) good &= row[i] != row[j];
            }
            if (good) rows.add(row.clone());
            return;
        }
        for (int i = from; i < row.length; i++) {
            for (int d = 0; d < foods.size(); d++) {
                if (d == table[i]) continue;
                int[] next = row.clone();
                next[i] = d;
                changed(next, i + 1, k - 1, rows);
            }
        }
    }

    int serve() {
        if (day == 100000) return -2;
        if (table == null) return -3;
        int[] all = new int[8];
        for (int d : chosen) {
            if (!can(d)) return -3;
            for (int g = 0; g < 8; g++) all[g] += foods.get(d).needs[g];
        }
        for (int g = 0; g < 8; g++) {
            if (all[g] > stock[g]) return -3;
        }
        for (int g = 0; g < 8; g++) stock[g] -= all[g];
        for (int d : chosen) foods.get(d).served = day;
        day++;
        int n = chosen.size();
        chosen = new ArrayList<>();
        table = null;
        return n;
    }

    int have(int what, int n) {
        if (!in(what, 0, 4)) return -1;
        if (!in(n, what == 3 ? 1 : 0, new int[] {3, 3, 3, 9, 12}[what])) return -1;
        int before = have[what];
        have[what] = n;
        return before;
    }

    private List<Integer> overFire() {
        List<Integer> hot = new ArrayList<>();
        for (int d : chosen) {
            if (foods.get(d).kind != 0) hot.add(d);
        }
        hot.sort(Comparator.naturalOrder());
        return hot;
    }

    private static int range(int kind) {
        return new int[] {-1, 2, 0, 1, 0}[kind];
    }

    private List<Over> firing(List<Integer> order) {
        List<Over> done = new ArrayList<>();
        for (int d : order) {
            Over o = new Over();
            o.food = d;
            search:
            for (int e = 0; e + foods.get(d).time <= 48; e++) {
                for (int which = 0; which < have[range(foods.get(d).kind)]; which++) {
                    if (fits(done, d, e, which)) {
                        o.e = e;
                        o.which = which;
                        break search;
                    }
                }
            }
            done.add(o);
        }
        return done;
    }

    private boolean fits(List<Over> before, int d, int e, int which) {
        Food f = foods.get(d);
        for (int tick = e; tick < e + f.time; tick++) {
            int hands = f.hands;
            for (Over o : before) {
                Food other = foods.get(o.food);
                if (o.e == -2 || tick < o.e || tick >= o.e + other.time) continue;
                hands += other.hands;
                if (range(other.kind) == range(f.kind) && o.which == which) return false;
            }
            if (hands > have[3]) return false;
        }
        if (f.kind != 3) return true;
        for (Over o : before) {
            Food other = foods.get(o.food);
            if (o.e == -2 || other.kind != 3 || o.which != which) continue;
            if (o.e < e && other.heat > f.heat) return false;
            if (o.e > e && other.heat < f.heat) return false;
        }
        return true;
    }

    private int notHot(List<Over> done) {
        int n = 0;
        for (Over o : done) {
            if (o.e == -2 || o.e > have[4]) n++;
        }
        return n;
    }

    private static int sum(List<Over> done) {
        int n = 0;
        for (Over o : done) n += o.e == -2 ? 48 : o.e;
        return n;
    }

    int fire(int order) {
        List<Integer> hot = overFire();
        if (hot.size() > 5) return -4;
        if (order < 0) return -1;
        List<Integer> told = new ArrayList<>();
        long rest = order;
        for (int k = 0; k < hot.size(); k++) {
            int d = (int) (rest % 32);
            rest /= 32;
            if (!hot.contains(d) || told.contains(d)) return -1;
            told.add(d);
        }
        if (rest != 0) return -1;
        latest = firing(told);
        return notHot(latest);
    }

    private static void orders(List<Integer> rest, List<Integer> row, List<List<Integer>> all) {
        if (rest.isEmpty()) all.add(row);
        for (Integer d : rest) {
            List<Integer> less = new ArrayList<>(rest);
            less.remove(d);
            List<Integer> more = new ArrayList<>(row);
            more.add(d);
            orders(less, more, all);
        }
    }

    int bell() {
        List<Integer> hot = overFire();
        if (hot.size() > 6) {
            hot.sort(Comparator.comparing((Integer d) -> -foods.get(d).time).thenComparing(d -> d));
            latest = firing(hot);
            return notHot(latest);
        }
        List<List<Integer>> all = new ArrayList<>();
        orders(hot, new ArrayList<>(), all);
        List<Over> best = null;
        for (List<Integer> order : all) {
            List<Over> done = firing(order);
            if (best == null || notHot(done) < notHot(best) || notHot(done) == notHot(best) && sum(done) < sum(best)) {
                best = done;
            }
        }
        latest = best;
        return notHot(best);
    }

    int fired(int d, int what) {
        if (!food(d) || !in(what, 0, 2)) return -1;
        if (latest == null) return -3;
        for (int turn = 0; turn < latest.size(); turn++) {
            Over o = latest.get(turn);
            if (o.food == d) return new int[] {o.e, o.which, turn}[what];
        }
        return -3;
    }

    int waits() {
        return latest == null ? -3 : sum(latest);
    }

    int hands(int tick) {
        if (!in(tick, 0, 47)) return -1;
        if (latest == null) return -3;
        int n = 0;
        for (Over o : latest) {
            Food f = foods.get(o.food);
            if (o.e != -2 && in(tick, o.e, o.e + f.time - 1)) n += f.hands;
        }
        return n;
    }

    int officer(int rank, int appetite, int rights) {
        if (!in(rank, 0, 9) || !in(appetite, 0, 50) || !in(rights, 0, 31)) return -1;
        if (eaters.size() == 8) return -2;
        Eater e = new Eater();
        e.number = eaters.size();
        e.rank = rank;
        e.appetite = appetite;
        e.rights = rights;
        eaters.add(e);
        return e.number;
    }

    int left(int d, int n) {
        if (!food(d) || !in(n, 1, 99)) return -1;
        return foods.get(d).left + n > 99 ? -2 : (foods.get(d).left += n);
    }

    /** What is left of each dish when they have eaten; who has what stands with the eaters. */
    private int[] meal(List<Eater> row) {
        row.addAll(eaters);
        row.sort(Comparator.comparing((Eater e) -> e.rank).thenComparing(e -> e.number));
        int[] rest = new int[20];
        for (int d = 0; d < foods.size(); d++) rest[d] = foods.get(d).left;
        for (Eater e : row) {
            int eaten = 0;
            Arrays.fill(e.has, 0);
            for (int d = 0; d < foods.size(); d++) {
                boolean may = e.rights / (1 << foods.get(d).kind) % 2 == 1;
                while (may && rest[d] > 0 && eaten < e.appetite) {
                    rest[d]--;
                    e.has[d]++;
                    eaten++;
                }
            }
        }
        return rest;
    }

    int eats(int o, int d) {
        if (!in(o, 0, eaters.size() - 1) || d != -1 && !food(d)) return -1;
        meal(new ArrayList<>());
        return d == -1 ? Arrays.stream(eaters.get(o).has).sum() : eaters.get(o).has[d];
    }

    int eat() {
        int[] rest = meal(new ArrayList<>());
        for (int d = 0; d < foods.size(); d++) foods.get(d).left = rest[d];
        return Arrays.stream(rest).sum();
    }

    int last() {
        List<Eater> row = new ArrayList<>();
        meal(row);
        int last = -2;
        for (Eater e : row) {
            if (Arrays.stream(e.has).sum() > 0) last = e.number;
        }
        return last;
    }

    int count(int what) {
        int able = 0;
        int left = 0;
        for (int d = 0; d < foods.size(); d++) {
            able += can(d) ? 1 : 0;
            left += foods.get(d).left;
        }
        int[] all = {foods.size(), chosen.size(), eaters.size(), day, gap, table == null ? 0 : 1, left, able};
        return in(what, 0, 7) ? all[what] : -1;
    }

    int keep(int d, int what, int k) {
        if (!in(d, 0, 7) || what != 0 && what != 1 && what != 3 && what != 4) return -1;
        if ((what == 1 || what == 4) && !food(k)) return -1;
        if (what == 0) shelf[d] = null;
        if (what == 1) shelf[d] = foods.get(k);
        if (what == 3) shelf[d] = table == null ? new int[0] : table.clone();
        if (what == 4) {
            short[] row = new short[8];
            for (int g = 0; g < 8; g++) row[g] = (short) foods.get(k).needs[g];
            shelf[d] = row;
        }
        return 0;
    }

    int make(int d, int what, int n) {
        if (!in(d, 0, 7) || what != 3 && what != 4 || n > 60) return -1;
        if (n < 0) return -14;
        shelf[d] = what == 3 ? new int[n] : new short[n];
        return 0;
    }

    long element(int d, int i) {
        if (!in(d, 0, 7)) throw new IllegalArgumentException();
        if (shelf[d] instanceof int[] row && in(i, 0, row.length - 1)) return row[i];
        if (shelf[d] instanceof short[] row && in(i, 0, row.length - 1)) return row[i];
        throw new IllegalStateException();
    }

    int copy(int d, int i, int e, int j, int n) {
        if (!in(d, 0, 7) || !in(e, 0, 7)) return -1;
        if (shelf[d] == null || shelf[e] == null) return -11;
        if (shelf[d] instanceof Food || shelf[e] instanceof Food) return -12;
        try {
            System.arraycopy(shelf[d], i, shelf[e], j, n);
        } catch (ArrayStoreException of) {
            return -12;
        } catch (IndexOutOfBoundsException of) {
            return -13;
        }
        return n;
    }

    int weight(int d) {
        if (!in(d, 0, 7)) return -1;
        if (shelf[d] == null) return -11;
        if (!(shelf[d] instanceof Food f)) return -12;
        int w = 10 + f.size + f.time * f.hands + f.heat;
        if (f.kind == 2 || f.kind == 4) w += 100;
        return f.kind == 4 ? 2 * w : w;
    }

    int toss(int d) {
        if (!in(d, 0, 7)) return -1;
        if (shelf[d] == null) return -11;
        if (!(shelf[d] instanceof Food f)) return -12;
        return f.kind == 0 ? -15 : foods.indexOf(f);
    }
}
