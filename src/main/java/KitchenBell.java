import java.util.Arrays;

/**
 * A grand kitchen: its dishes and stores, the service on the table, the fires before the bell,
 * and who eats what is left.
 *
 * <p>This class looks at what it is told and refuses it in the document's order; its parts
 * (Larder, Service, Hearth, Mess) trust the numbers that come through here.
 */
public final class KitchenBell {
    private static final int WRONG = -1;
    private static final int FULL = -2;
    private static final int NONE = -2;
    private static final int UNFIT = -3;
    private static final int NO_WAY = -4;
    private static final int SPENT = -5;
    private static final int EMPTY_SHELF = -11;
    private static final int OTHER_KIND = -12;
    private static final int NO_PLACE = -13;
    private static final int BELOW_ZERO = -14;
    private static final int NO_FAILURE = -15;

    private static final int COLD = 0;
    private static final int HOT = 1;
    private static final int ROAST = 2;
    private static final int BAKED = 3;
    private static final int GILDED = 4;

    private static final int SPITS = 0;
    private static final int OVENS = 1;
    private static final int STOVES = 2;
    private static final int HANDS = 3;
    private static final int WARM = 4;

    private static final int GOODS = 8;
    private static final int DISHES = 20;
    private static final int CHOSEN = 9;
    private static final int OFFICERS = 8;
    private static final int SHELVES = 8;
    private static final int TICKS = 48;
    private static final int STOCK_LIMIT = 100000;
    private static final int DAY_LIMIT = 100000;
    private static final int LEFT_LIMIT = 99;
    private static final int ROW_LIMIT = 60;

    private static final int A_DISH = 1;
    private static final int INTS = 3;
    private static final int SHORTS = 4;

    private final Larder larder;
    private final Service service;
    private final Hearth hearth;
    private final Mess mess;
    private final Held[] shelves = new Held[SHELVES];

    public KitchenBell() {
        Larder shared = new Larder();
        larder = shared;
        service = new Service(shared);
        hearth = new Hearth(shared);
        mess = new Mess(shared);
    }

    // ---- dishes and stores

    public int dish(int told, int size, int fire, int heat) {
        if (!within(told, 0, 44) || told % 10 > 4 || !within(size, 1, 3)) {
            return WRONG;
        }
        int kind = told / 10;
        if (kind != COLD && (!within(fire, 11, 123) || !within(fire % 10, 1, 3))) {
            return WRONG;
        }
        if (kind == BAKED && !within(heat, 1, 9)) {
            return WRONG;
        }
        if (larder.known >= DISHES) {
            return FULL;
        }
        return larder.enter(newDish(larder.known, told, size, fire, heat));
    }

    private static Dish newDish(int number, int told, int size, int fire, int heat) {
        int colour = told % 10;
        switch (told / 10) {
            case HOT:
                return new HotDish(number, size, colour, fire / 10, fire % 10);
            case ROAST:
                return new RoastDish(number, size, colour, fire / 10, fire % 10);
            case BAKED:
                return new BakedDish(number, size, colour, fire / 10, fire % 10, heat);
            case GILDED:
                return new GildedDish(number, size, colour, fire / 10, fire % 10);
            default:
                return new Dish(number, size, colour);
        }
    }

    public int needs(int dish, int good, int n) {
        if (!larder.isDish(dish) || !isGood(good) || !within(n, 0, 9)) {
            return WRONG;
        }
        int before = larder.wanted[dish][good];
        larder.wanted[dish][good] = n;
        return before;
    }

    public int store(int good, int n) {
        if (!isGood(good) || !within(n, 1, 1000)) {
            return WRONG;
        }
        if (larder.stock[good] + n > STOCK_LIMIT) {
            return FULL;
        }
        larder.stock[good] += n;
        return larder.stock[good];
    }

    public int fail(int good, boolean is) {
        if (!isGood(good)) {
            return WRONG;
        }
        if (larder.failed[good] == is) {
            return 0;
        }
        larder.failed[good] = is;
        return 1;
    }

    public int gap(int n) {
        if (!within(n, 0, 30)) {
            return WRONG;
        }
        int before = larder.pause;
        larder.pause = n;
        return before;
    }

    public int day(int n) {
        if (!within(n, 1, 100)) {
            return WRONG;
        }
        if (larder.today + n > DAY_LIMIT) {
            return FULL;
        }
        larder.today += n;
        return larder.today;
    }

    public int look(int dish, int what) {
        Dish it = larder.dishAt(dish);
        if (it == null) {
            return WRONG;
        }
        switch (what) {
            case 0:
                return it.kindNumber();
            case 1:
                return it.size;
            case 2:
                return it.colour;
            case 3:
                return it.timeTaken;
            case 4:
                return it.handsTaken;
            case 5:
                return it.heat;
            case 6:
                return larder.servedOn[dish];
            case 7:
                return larder.canBe(dish) ? 1 : 0;
            case 8:
                return service.turnOf(dish);
            default:
                return WRONG;
        }
    }

    public int good(int dish, int good) {
        if (!isGood(good)) {
            return WRONG;
        }
        if (dish == -1) {
            return larder.stock[good];
        }
        return larder.isDish(dish) ? larder.wanted[dish][good] : WRONG;
    }

    // ---- the service

    public int choose(int dish) {
        if (!larder.isDish(dish)) {
            return WRONG;
        }
        if (service.size >= CHOSEN) {
            return FULL;
        }
        if (!larder.canBe(dish) || service.turnOf(dish) != NONE) {
            return UNFIT;
        }
        return service.add(dish);
    }

    public int leave(int dish) {
        if (!larder.isDish(dish)) {
            return WRONG;
        }
        int turn = service.turnOf(dish);
        return turn == NONE ? UNFIT : service.drop(turn);
    }

    public int lay() {
        return service.layLeast();
    }

    public int layings() {
        return service.countLayings();
    }

    public int place(int i) {
        if (!service.mayBePlace(i)) {
            return WRONG;
        }
        return service.laid ? service.table[i] : UNFIT;
    }

    public int swap(int i, int j) {
        if (!service.mayBePlace(i) || !service.mayBePlace(j)) {
            return WRONG;
        }
        return service.laid ? service.exchange(i, j) : UNFIT;
    }

    public int change() {
        return service.laid ? service.changeFewest() : UNFIT;
    }

    public int serve() {
        if (larder.today >= DAY_LIMIT) {
            return FULL;
        }
        if (!service.laid || !service.canBeServed()) {
            return UNFIT;
        }
        return service.goOut();
    }

    // ---- the bell

    public int have(int what, int n) {
        if (!within(what, SPITS, WARM)) {
            return WRONG;
        }
        int least = what == HANDS ? 1 : 0;
        int most = what == HANDS ? 9 : what == WARM ? 12 : 3;
        if (!within(n, least, most)) {
            return WRONG;
        }
        int before = hearth.equipment[what];
        hearth.equipment[what] = n;
        return before;
    }

    public int fire(int order) {
        int over = service.hotDishes();
        if (over > 5) {
            return NO_WAY;
        }
        if (!isOrder(order, over)) {
            return WRONG;
        }
        hearth.load(service);
        return hearth.follow(order);
    }

    private boolean isOrder(int order, int length) {
        int seen = 0;
        for (int turn = 0; turn < length; turn++) {
            int dish = order >>> 5 * turn & 31;
            if (service.turnOf(dish) == NONE || larder.kindAt(dish) == COLD || (seen >> dish & 1) != 0) {
                return false;
            }
            seen |= 1 << dish;
        }
        return order >>> 5 * length == 0;
    }

    public int bell() {
        hearth.load(service);
        return hearth.ring();
    }

    public int fired(int dish, int what) {
        if (!larder.isDish(dish) || !within(what, 0, 2)) {
            return WRONG;
        }
        int k = hearth.indexOf(dish);
        if (k == NONE) {
            return UNFIT;
        }
        if (what == 2) {
            return hearth.turnOf(k);
        }
        return what == 0 ? hearth.ahead[k] : hearth.spot[k];
    }

    public int waits() {
        return hearth.lit ? hearth.totalWait() : UNFIT;
    }

    public int hands(int tick) {
        if (!within(tick, 0, TICKS - 1)) {
            return WRONG;
        }
        return hearth.lit ? hearth.handsTakenIn(tick) : UNFIT;
    }

    // ---- leavings

    public int officer(int rank, int appetite, int rights) {
        if (!within(rank, 0, 9) || !within(appetite, 0, 50) || !within(rights, 0, 31)) {
            return WRONG;
        }
        if (mess.officers >= OFFICERS) {
            return FULL;
        }
        return mess.enter(rank, appetite, rights);
    }

    public int left(int dish, int n) {
        if (!larder.isDish(dish) || !within(n, 1, LEFT_LIMIT)) {
            return WRONG;
        }
        if (mess.leavings[dish] + n > LEFT_LIMIT) {
            return FULL;
        }
        mess.leavings[dish] += n;
        return mess.leavings[dish];
    }

    public int eats(int officer, int dish) {
        if (!within(officer, 0, mess.officers - 1) || dish != -1 && !larder.isDish(dish)) {
            return WRONG;
        }
        mess.shareOut();
        return dish == -1 ? mess.allOf(officer) : mess.portion[officer][dish];
    }

    public int eat() {
        mess.shareOut();
        return mess.clearAway();
    }

    public int last() {
        mess.shareOut();
        return mess.lastFed();
    }

    public int count(int what) {
        switch (what) {
            case 0:
                return larder.known;
            case 1:
                return service.size;
            case 2:
                return mess.officers;
            case 3:
                return larder.today;
            case 4:
                return larder.pause;
            case 5:
                return service.laid ? 1 : 0;
            case 6:
                return mess.allLeft();
            case 7:
                return larder.countThatCanBe();
            default:
                return WRONG;
        }
    }

    public int keep(int d, int what, int k) {
        if (!isShelf(d)) {
            return WRONG;
        }
        switch (what) {
            case 0:
                shelves[d] = null;
                return 0;
            case A_DISH:
                return shelve(d, larder.dishAt(k));
            case INTS:
                return shelve(d, service.tableRow());
            case SHORTS:
                return shelve(d, larder.needsRow(k));
            default:
                return WRONG;
        }
    }

    private int shelve(int d, Held held) {
        if (held == null) {
            return WRONG;
        }
        shelves[d] = held;
        return 0;
    }

    public int make(int d, int what, int n) {
        if (!isShelf(d) || what != INTS && what != SHORTS || n > ROW_LIMIT) {
            return WRONG;
        }
        if (n < 0) {
            return BELOW_ZERO;
        }
        shelves[d] = new Row(what, n);
        return 0;
    }

    public long element(int d, int i) throws IllegalArgumentException, IllegalStateException {
        if (!isShelf(d)) {
            throw new IllegalArgumentException("no such shelf");
        }
        Row row = asRow(shelves[d]);
        if (row == null || !within(i, 0, row.cells.length - 1)) {
            throw new IllegalStateException("no such element");
        }
        return row.cells[i];
    }

    public int copy(int d, int i, int e, int j, int n) {
        if (!isShelf(d) || !isShelf(e)) {
            return WRONG;
        }
        if (shelves[d] == null || shelves[e] == null) {
            return EMPTY_SHELF;
        }
        Row from = asRow(shelves[d]);
        Row to = asRow(shelves[e]);
        if (from == null || to == null || from.what != to.what) {
            return OTHER_KIND;
        }
        // Differences, not sums: i + n may be more than an int holds.
        if (n < 0 || !within(i, 0, from.cells.length - n) || !within(j, 0, to.cells.length - n)) {
            return NO_PLACE;
        }
        System.arraycopy(from.cells, i, to.cells, j, n);
        return n;
    }

    public int weight(int d) {
        if (!isShelf(d)) {
            return WRONG;
        }
        if (shelves[d] == null) {
            return EMPTY_SHELF;
        }
        Dish dish = asDish(shelves[d]);
        return dish == null ? OTHER_KIND : dish.weighs();
    }

    public int toss(int d) {
        if (!isShelf(d)) {
            return WRONG;
        }
        if (shelves[d] == null) {
            return EMPTY_SHELF;
        }
        Dish dish = asDish(shelves[d]);
        return dish == null ? OTHER_KIND : failureOf(dish);
    }

    private static int failureOf(Dish dish) {
        try {
            dish.spoil();
        } catch (IllegalStateException failure) {
            return dish.number;
        }
        return NO_FAILURE;
    }

    private static boolean within(int n, int least, int most) {
        return n >= least && n <= most;
    }

    private static boolean isGood(int good) {
        return within(good, 0, GOODS - 1);
    }

    private static boolean isShelf(int d) {
        return within(d, 0, SHELVES - 1);
    }

    private static Row asRow(Held held) {
        if (held instanceof Row row) {
            return row;
        }
        return null;
    }

    private static Dish asDish(Held held) {
        if (held instanceof Dish dish) {
            return dish;
        }
        return null;
    }

    /** What a SHELF may hold. */
    private interface Held {
    }

    /** A ROW of ints or of shorts, told apart by what: no element ever leaves the shorts' range. */
    private static final class Row implements Held {
        final int what;
        final int[] cells;

        Row(int what, int length) {
            this.what = what;
            this.cells = new int[length];
        }
    }

    /** A COLD dish, and what all kinds share; nothing of it changes, so a SHELF may hold it as it is. */
    private static class Dish implements Held {
        final int number;
        final int size;
        final int colour;
        final int timeTaken;
        final int handsTaken;
        final int heat;

        Dish(int number, int size, int colour) {
            this(number, size, colour, 0, 0, 0);
        }

        Dish(int number, int size, int colour, int timeTaken, int handsTaken, int heat) {
            this.number = number;
            this.size = size;
            this.colour = colour;
            this.timeTaken = timeTaken;
            this.handsTaken = handsTaken;
            this.heat = heat;
        }

        int kindNumber() {
            return COLD;
        }

        /** Which fires it goes over: SPITS, OVENS, STOVES or NONE. */
        int fires() {
            return NONE;
        }

        int weighs() {
            return 10 + size;
        }

        /** Throws the FAILURE of the dish; COLD dishes have none. */
        void spoil() {
        }
    }

    private static class HotDish extends Dish {
        HotDish(int number, int size, int colour, int time, int crew) {
            super(number, size, colour, time, crew, 0);
        }

        HotDish(int number, int size, int colour, int time, int crew, int heat) {
            super(number, size, colour, time, crew, heat);
        }

        int kindNumber() {
            return HOT;
        }

        int fires() {
            return STOVES;
        }

        int weighs() {
            return super.weighs() + timeTaken * handsTaken;
        }

        void spoil() {
            throw new IllegalStateException("spoilt");
        }
    }

    private static class RoastDish extends HotDish {
        RoastDish(int number, int size, int colour, int time, int crew) {
            super(number, size, colour, time, crew);
        }

        int kindNumber() {
            return ROAST;
        }

        int fires() {
            return SPITS;
        }

        int weighs() {
            return super.weighs() + 100;
        }
    }

    private static final class BakedDish extends HotDish {
        BakedDish(int number, int size, int colour, int time, int crew, int heat) {
            super(number, size, colour, time, crew, heat);
        }

        int kindNumber() {
            return BAKED;
        }

        int fires() {
            return OVENS;
        }

        int weighs() {
            return super.weighs() + heat;
        }
    }

    private static final class GildedDish extends RoastDish {
        GildedDish(int number, int size, int colour, int time, int crew) {
            super(number, size, colour, time + 1, crew + 1);
        }

        int kindNumber() {
            return GILDED;
        }

        int weighs() {
            return 2 * super.weighs();
        }
    }

    /** The GOODS, the DISHES and THE DAY. */
    private static final class Larder {
        final int[] stock = new int[GOODS];
        final boolean[] failed = new boolean[GOODS];
        final int[][] wanted = new int[DISHES][GOODS];
        final int[] servedOn = new int[DISHES];
        // The searches ask for these again and again, so they stand in rows beside the dishes.
        final int[] kinds = new int[DISHES];
        final int[] looks = new int[DISHES];
        int known = 0;
        int today = 0;
        int pause = 7;
        private final Dish[] dishes = new Dish[DISHES];

        int enter(Dish dish) {
            int number = known;
            if (number >= DISHES || dish == null) {
                return FULL;
            }
            dishes[number] = dish;
            servedOn[number] = NONE;
            kinds[number] = dish.kindNumber();
            looks[number] = dish.size * 10 + dish.colour;
            known++;
            return number;
        }

        boolean isDish(int number) {
            return number >= 0 && number < known;
        }

        Dish dishAt(int number) {
            return isDish(number) ? dishes[number] : null;
        }

        int kindAt(int number) {
            return isDish(number) ? kinds[number] : NONE;
        }

        boolean canBe(int number) {
            if (!isDish(number)) {
                return false;
            }
            int[] wants = wanted[number];
            for (int good = 0; good < GOODS; good++) {
                if (wants[good] > 0 && (failed[good] || wants[good] > stock[good])) {
                    return false;
                }
            }
            return servedOn[number] == NONE || servedOn[number] <= today - pause;
        }

        int countThatCanBe() {
            int able = 0;
            for (int number = 0; number < known; number++) {
                if (canBe(number)) {
                    able++;
                }
            }
            return able;
        }

        Row needsRow(int number) {
            if (!isDish(number)) {
                return null;
            }
            Row row = new Row(SHORTS, GOODS);
            System.arraycopy(wanted[number], 0, row.cells, 0, GOODS);
            return row;
        }
    }

    /** THE SERVICE and THE TABLE. */
    private static final class Service {
        private static final int TRIES_LIMIT = 50000;
        private static final int CHANGES_LIMIT = 3;

        int size = 0;
        boolean laid = false;
        final int[] table = new int[CHOSEN];
        private final Larder larder;
        private final int[] chosen = new int[CHOSEN];

        private final int[] row = new int[CHOSEN];
        private final int[] byNumber = new int[CHOSEN];
        private boolean firstIsEnough;
        private boolean spent;
        private int tries;
        private int found;
        private int able;
        private final int[] lostFrom = new int[CHOSEN];

        Service(Larder larder) {
            this.larder = larder;
        }

        /** The place of a DISH in the order of those CHOSEN, or NONE. */
        int turnOf(int dish) {
            for (int turn = 0; turn < size; turn++) {
                if (chosen[turn] == dish) {
                    return turn;
                }
            }
            return NONE;
        }

        int add(int dish) {
            if (size >= CHOSEN) {
                return FULL;
            }
            chosen[size] = dish;
            size++;
            laid = false;
            return size;
        }

        int drop(int turn) {
            for (int next = turn + 1; next < size; next++) {
                chosen[next - 1] = chosen[next];
            }
            size--;
            laid = false;
            return size;
        }

        int hotDishes() {
            int hot = 0;
            for (int turn = 0; turn < size; turn++) {
                if (larder.kindAt(chosen[turn]) != COLD) {
                    hot++;
                }
            }
            return hot;
        }

        boolean mayBePlace(int i) {
            return i >= 0 && i < (laid ? size : CHOSEN);
        }

        Row tableRow() {
            Row copy = new Row(INTS, laid ? size : 0);
            System.arraycopy(table, 0, copy.cells, 0, copy.cells.length);
            return copy;
        }

        int layLeast() {
            startTries(true);
            if (spent) {
                return SPENT;
            }
            if (found == 0) {
                return NO_WAY;
            }
            setTable();
            return tries;
        }

        int countLayings() {
            startTries(false);
            return spent ? SPENT : found;
        }

        private void startTries(boolean first) {
            firstIsEnough = first;
            spent = false;
            tries = 0;
            found = 0;
            sortByNumber();
            triesEnd(this, 0, 0);
        }

        private void sortByNumber() {
            int filled = 0;
            for (int dish = 0; dish < larder.known; dish++) {
                if (turnOf(dish) != NONE && filled < size) {
                    byNumber[filled] = dish;
                    filled++;
                }
            }
        }

        /** TRIES from a place on, those before it being filled; true if no more are to be made at all. */
        private static boolean triesEnd(Service s, int place, int used) {
            if (place >= s.size) {
                s.found++;
                return s.firstIsEnough;
            }
            for (int k = 0; k < s.size; k++) {
                if ((used >> k & 1) != 0) {
                    continue;
                }
                if (s.tries >= TRIES_LIMIT) {
                    s.spent = true;
                    return true;
                }
                s.tries++;
                if (!s.fits(place, s.byNumber[k])) {
                    continue;
                }
                s.row[place] = s.byNumber[k];
                if (triesEnd(s, place + 1, used | 1 << k)) {
                    return true;
                }
            }
            return false;
        }

        /** Whether a DISH is right at a place of the row, with those at the places before it. */
        private boolean fits(int place, int dish) {
            if (place > 0 && larder.kinds[row[place - 1]] == larder.kinds[dish]) {
                return false;
            }
            int mirrored = size - 1 - place;
            return mirrored >= place || larder.looks[row[mirrored]] == larder.looks[dish];
        }

        private void setTable() {
            System.arraycopy(row, 0, table, 0, size);
            laid = true;
        }

        int exchange(int i, int j) {
            System.arraycopy(table, 0, row, 0, size);
            row[i] = table[j];
            row[j] = table[i];
            for (int place = 0; place < size; place++) {
                if (!fits(place, row[place])) {
                    return NO_WAY;
                }
            }
            setTable();
            return 1;
        }

        int changeFewest() {
            markAble();
            for (int changes = 0; changes <= CHANGES_LIMIT; changes++) {
                if (isChanged(this, 0, changes, 0)) {
                    setTable();
                    System.arraycopy(table, 0, chosen, 0, size);
                    return changes;
                }
            }
            return NO_WAY;
        }

        private void markAble() {
            able = 0;
            for (int dish = 0; dish < larder.known; dish++) {
                if (larder.canBe(dish)) {
                    able |= 1 << dish;
                }
            }
            int lost = 0;
            for (int place = size - 1; place >= 0; place--) {
                lost += (able >> table[place] & 1) == 0 ? 1 : 0;
                lostFrom[place] = lost;
            }
        }

        /**
         * Whether the row can be filled from a place on with so many changes at most; it is then.
         * Called with one change more each time, it first succeeds with the fewest, and with the least row.
         */
        private static boolean isChanged(Service s, int place, int changes, int used) {
            if (place >= s.size) {
                return true;
            }
            if (s.lostFrom[place] > changes) {
                return false;
            }
            int ready = s.able & ~used;
            for (int dish = 0; dish < s.larder.known; dish++) {
                int cost = dish == s.table[place] ? 0 : 1;
                if (cost > changes || (ready >> dish & 1) == 0 || !s.fits(place, dish)) {
                    continue;
                }
                s.row[place] = dish;
                if (isChanged(s, place + 1, changes - cost, used | 1 << dish)) {
                    return true;
                }
            }
            return false;
        }

        boolean canBeServed() {
            for (int turn = 0; turn < size; turn++) {
                if (!larder.canBe(chosen[turn])) {
                    return false;
                }
            }
            for (int good = 0; good < GOODS; good++) {
                if (wantedOf(good) > larder.stock[good]) {
                    return false;
                }
            }
            return true;
        }

        private int wantedOf(int good) {
            int sum = 0;
            for (int turn = 0; turn < size; turn++) {
                sum += larder.wanted[chosen[turn]][good];
            }
            return sum;
        }

        int goOut() {
            int dishes = size;
            for (int good = 0; good < GOODS; good++) {
                larder.stock[good] -= wantedOf(good);
            }
            for (int turn = 0; turn < size; turn++) {
                larder.servedOn[chosen[turn]] = larder.today;
            }
            larder.today++;
            size = 0;
            laid = false;
            return dishes;
        }
    }

    /**
     * The fires before THE BELL, and the latest FIRING. Ticks are bits of a long, the bell's own the lowest;
     * the dishes of a firing are known by their index k in it, by numbers.
     */
    private static final class Hearth {
        private static final long ALL_TICKS = (1L << TICKS) - 1;
        private static final int SEARCHED = 6;
        private static final int MOST_HANDS = 9;

        final int[] equipment = new int[] {1, 1, 1, 4, 2};
        boolean lit = false;
        final int[] ahead = new int[CHOSEN];
        final int[] spot = new int[CHOSEN];
        private final Larder larder;
        private int size = 0;
        private final int[] numbers = new int[CHOSEN];
        private final int[] fires = new int[CHOSEN];
        private final int[] time = new int[CHOSEN];
        private final int[] crew = new int[CHOSEN];
        private final int[] heat = new int[CHOSEN];

        private final int[] plan = new int[CHOSEN];
        private final int[] order = new int[CHOSEN];
        private final long[][] busy = new long[3][3];
        // atLeast[t][c]: the ticks in which t dishes in turn take c hands or more.
        private final long[][] atLeast = new long[CHOSEN + 1][MOST_HANDS + 1];
        private int leastNotHot;
        private int leastWait;

        Hearth(Larder larder) {
            this.larder = larder;
        }

        void load(Service service) {
            size = 0;
            for (int number = 0; number < larder.known; number++) {
                Dish dish = larder.dishAt(number);
                if (dish == null || dish.fires() < 0 || service.turnOf(number) == NONE || size >= CHOSEN) {
                    continue;
                }
                numbers[size] = number;
                fires[size] = dish.fires();
                time[size] = dish.timeTaken;
                crew[size] = dish.handsTaken;
                heat[size] = dish.heat;
                plan[size] = size;
                size++;
            }
        }

        /** Fires by an order that is told by digits and known to be one. */
        int follow(int told) {
            for (int turn = 0; turn < size; turn++) {
                plan[turn] = Math.max(0, indexAmongLoaded(told >>> 5 * turn & 31));
            }
            return fireByPlan();
        }

        int ring() {
            if (size > SEARCHED) {
                planByTime();
            } else {
                leastNotHot = size + 1;
                leastWait = 0;
                clear();
                seek(this, 0, 0, 0, 0);
            }
            return fireByPlan();
        }

        /** The longest first; dishes of like time stay by numbers. */
        private void planByTime() {
            for (int k = 1; k < size; k++) {
                int turn = k;
                while (turn > 0 && time[plan[turn - 1]] < time[k]) {
                    plan[turn] = plan[turn - 1];
                    turn--;
                }
                plan[turn] = k;
            }
        }

        /**
         * Tries all orders that begin with those fired so far, the least first, and keeps the best as the plan.
         * What comes on top only makes an order worse, so one that is no better already is left.
         */
        private static void seek(Hearth h, int turn, int used, int notHot, int wait) {
            if (notHot > h.leastNotHot || notHot == h.leastNotHot && wait >= h.leastWait) {
                return;
            }
            if (turn >= h.size) {
                h.leastNotHot = notHot;
                h.leastWait = wait;
                System.arraycopy(h.order, 0, h.plan, 0, h.size);
                return;
            }
            for (int k = 0; k < h.size; k++) {
                if ((used >> k & 1) != 0) {
                    continue;
                }
                h.put(turn, k);
                seek(h, turn + 1, used | 1 << k, notHot + (h.isHot(k) ? 0 : 1), wait + h.waitOf(k));
                h.lift(k);
            }
        }

        private int fireByPlan() {
            clear();
            int notHot = 0;
            for (int turn = 0; turn < size; turn++) {
                put(turn, plan[turn]);
                notHot += isHot(plan[turn]) ? 0 : 1;
            }
            lit = true;
            return notHot;
        }

        private void clear() {
            for (int kind = 0; kind < 3; kind++) {
                Arrays.fill(busy[kind], 0L);
            }
            atLeast[0][0] = ALL_TICKS;
        }

        /** Puts a dish over fire as the next in turn. */
        private void put(int turn, int k) {
            int kind = fires[k];
            int spare = equipment[HANDS] - crew[k];
            int least = TICKS;
            int where = NONE;
            if (spare >= 0) {
                long manned = ALL_TICKS & ~atLeast[turn][spare + 1];
                for (int one = 0; one < equipment[kind]; one++) {
                    long starts = runsOf(manned & ~busy[kind][one], time[k]) & heatAllows(turn, k, one);
                    int e = lowestBit(starts);
                    if (e < least) {
                        least = e;
                        where = one;
                    }
                }
            }
            order[turn] = k;
            ahead[k] = where == NONE ? NONE : least;
            spot[k] = where;
            if (where != NONE) {
                busy[kind][where] |= ticksOf(k);
            }
            takeHands(turn, k);
        }

        private void takeHands(int turn, int k) {
            long taken = spot[k] == NONE ? 0L : ticksOf(k);
            for (int c = 0; c <= MOST_HANDS; c++) {
                atLeast[turn + 1][c] = atLeast[turn][c] | taken & atLeast[turn][Math.max(0, c - crew[k])];
            }
        }

        private void lift(int k) {
            if (spot[k] != NONE) {
                busy[fires[k]][spot[k]] &= ~ticksOf(k);
            }
        }

        private long ticksOf(int k) {
            return (1L << time[k]) - 1 << ahead[k];
        }

        /** The ticks from which on so many are free. */
        private static long runsOf(long free, int length) {
            long starts = free;
            for (int tick = 1; tick < length; tick++) {
                starts &= free >>> tick;
            }
            return starts;
        }

        /** The ticks in which a dish may start by its heat; dishes that aren't baked have one heat, 0. */
        private long heatAllows(int turn, int k, int one) {
            long allowed = ALL_TICKS;
            for (int before = 0; before < turn; before++) {
                int other = order[before];
                if (fires[other] != fires[k] || spot[other] != one || heat[other] == heat[k]) {
                    continue;
                }
                long nearerToBell = (1L << ahead[other]) - 1;
                allowed &= heat[other] > heat[k] ? nearerToBell : ~nearerToBell;
            }
            return allowed;
        }

        private static int lowestBit(long ticks) {
            return ticks == 0 ? TICKS : Long.bitCount((ticks & -ticks) - 1);
        }

        private boolean isHot(int k) {
            return ahead[k] != NONE && ahead[k] <= equipment[WARM];
        }

        private int waitOf(int k) {
            return ahead[k] == NONE ? TICKS : ahead[k];
        }

        private int indexAmongLoaded(int number) {
            for (int k = 0; k < size; k++) {
                if (numbers[k] == number) {
                    return k;
                }
            }
            return NONE;
        }

        /** The index of a dish in the latest firing, or NONE. */
        int indexOf(int number) {
            return lit ? indexAmongLoaded(number) : NONE;
        }

        int turnOf(int k) {
            for (int turn = 0; turn < size; turn++) {
                if (order[turn] == k) {
                    return turn;
                }
            }
            return NONE;
        }

        int totalWait() {
            int sum = 0;
            for (int k = 0; k < size; k++) {
                sum += waitOf(k);
            }
            return sum;
        }

        int handsTakenIn(int tick) {
            int taken = 0;
            for (int k = 0; k < size; k++) {
                if (ahead[k] != NONE && (ticksOf(k) >>> tick & 1) != 0) {
                    taken += crew[k];
                }
            }
            return taken;
        }
    }

    /** The OFFICERS and the LEAVINGS. */
    private static final class Mess {
        int officers = 0;
        final int[] leavings = new int[DISHES];
        final int[][] portion = new int[OFFICERS][DISHES];
        private final Larder larder;
        private final int[] ranks = new int[OFFICERS];
        private final int[] appetites = new int[OFFICERS];
        private final int[] rights = new int[OFFICERS];
        private final int[] turns = new int[OFFICERS];

        Mess(Larder larder) {
            this.larder = larder;
        }

        int enter(int rank, int appetite, int right) {
            int number = officers;
            if (number >= OFFICERS) {
                return FULL;
            }
            ranks[number] = rank;
            appetites[number] = appetite;
            rights[number] = right;
            int turn = number;
            while (turn > 0 && ranks[turns[turn - 1]] > rank) {
                turns[turn] = turns[turn - 1];
                turn--;
            }
            turns[turn] = number;
            officers++;
            return number;
        }

        /** Fills the portions; the leavings stay as they are. */
        void shareOut() {
            for (int officer = 0; officer < officers; officer++) {
                Arrays.fill(portion[officer], 0);
            }
            for (int turn = 0; turn < officers; turn++) {
                feed(turns[turn]);
            }
        }

        private void feed(int officer) {
            int hunger = appetites[officer];
            for (int dish = 0; dish < larder.known; dish++) {
                if ((rights[officer] >> larder.kinds[dish] & 1) == 0) {
                    continue;
                }
                int has = Math.min(hunger, uneaten(dish));
                portion[officer][dish] = has;
                hunger -= has;
            }
        }

        private int uneaten(int dish) {
            int rest = leavings[dish];
            for (int officer = 0; officer < officers; officer++) {
                rest -= portion[officer][dish];
            }
            return rest;
        }

        int allOf(int officer) {
            int sum = 0;
            for (int dish = 0; dish < larder.known; dish++) {
                sum += portion[officer][dish];
            }
            return sum;
        }

        int clearAway() {
            for (int dish = 0; dish < larder.known; dish++) {
                leavings[dish] = uneaten(dish);
            }
            return allLeft();
        }

        int allLeft() {
            int sum = 0;
            for (int dish = 0; dish < larder.known; dish++) {
                sum += leavings[dish];
            }
            return sum;
        }

        int lastFed() {
            for (int turn = officers - 1; turn >= 0; turn--) {
                if (allOf(turns[turn]) > 0) {
                    return turns[turn];
                }
            }
            return NONE;
        }
    }
}
