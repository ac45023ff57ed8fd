import java.util.Random;

/** All promises: runs of calls drawn by fixed seeds, each answer held against PlainKitchen's. */
public final class AgainstPlainTest {
    private static final int[] ODD = {Integer.MIN_VALUE, -2, -1, 0, 9, 20, 31, 60, 61, 100, 1000, Integer.MAX_VALUE};
    private static final Due DUE = new Due();
    private static final int[] MET = new int[34];

    private final Random random;
    private final KitchenBell bell = new KitchenBell();
    private final PlainKitchen plain = new PlainKitchen();
    /** How unlike the dishes of this run are: like ones are laid in more ways. */
    private final int looks;
    private final int most;
    private String where = "";
    private String call;

    private AgainstPlainTest(long seed) {
        random = new Random(seed);
        looks = random.nextInt(4) == 0 ? 3 : 1;
        most = random.nextInt(3) == 0 ? 9 : 2 + random.nextInt(6);
    }

    public static void main(String[] args) {
        int runs = args.length > 0 ? Integer.parseInt(args[0]) : 300;
        for (int seed = 1; seed <= runs; seed++) {
            AgainstPlainTest run = new AgainstPlainTest(seed);
            for (int n = 0; n < 500; n++) {
                run.step(seed, n);
            }
        }
        for (int which = 0; which < MET.length; which++) {
            DUE.is("call " + which + " was met", MET[which] > 0 ? 1 : 0, 1);
        }
        DUE.end();
    }

    private int pick(int least, int most) {
        return random.nextInt(60) == 0 ? ODD[random.nextInt(ODD.length)] : least + random.nextInt(most - least + 1);
    }

    private int someDish() {
        return pick(0, Math.max(0, plain.count(0) - 1 + (random.nextInt(30) == 0 ? 1 : 0)));
    }

    private void step(int seed, int n) {
        int which = n < 12 ? 0 : random.nextInt(2) == 0 ? likely() : random.nextInt(34);
        MET[which]++;
        where = "seed " + seed + ", call " + n + ": ";
        if (which < 9) {
            dishes(which);
        } else if (which < 17) {
            service(which);
        } else if (which < 23) {
            fires(which);
        } else if (which < 29) {
            leavings(which);
        } else {
            shelves(which);
        }
    }

    /** Choosing, laying, changing and firing need one another, so they come more often. */
    private int likely() {
        int chosen = plain.count(1);
        int[] next = {9, 9, chosen < most ? 9 : 10, 11, 11, 14, 15, 15, 16, 18, 19, 20, 20, 4, 2, 3, 3, 6};
        int which = next[random.nextInt(next.length)];
        return which == 16 && random.nextInt(4) != 0 ? 11 : which;
    }

    private void same(String told, long got, long want) {
        call = told;
        DUE.is(where + call, got, want);
    }

    private void dishes(int which) {
        int d = someDish();
        int g = pick(0, 7);
        int n = pick(0, 9);
        switch (which) {
            case 0 -> {
                int told = pick(0, 4) * 10 + pick(0, looks - 1);
                int size = pick(1, looks == 1 ? 1 : 2);
                int fire = pick(1, 12) * 10 + pick(1, 3);
                int heat = pick(1, 9);
                same("dish(" + told + ", " + size + ", " + fire + ", " + heat + ")",
                    bell.dish(told, size, fire, heat), plain.dish(told, size, fire, heat));
            }
            case 1 -> {
                n = random.nextInt(4) == 0 ? n : 0;
                same("needs", bell.needs(d, g, n), plain.needs(d, g, n));
            }
            case 2 -> {
                n = pick(1, 20);
                same("store", bell.store(g, n), plain.store(g, n));
            }
            case 3 -> {
                boolean is = random.nextInt(3) == 0;
                same("fail", bell.fail(g, is), plain.fail(g, is));
            }
            case 4 -> {
                n = random.nextInt(3) == 0 ? pick(0, 30) : 0;
                same("gap", bell.gap(n), plain.gap(n));
            }
            case 5 -> {
                n = pick(1, 10);
                same("day", bell.day(n), plain.day(n));
            }
            case 6, 7 -> same("look", bell.look(d, n), plain.look(d, n));
            default -> {
                d = random.nextBoolean() ? d : -1;
                same("good", bell.good(d, g), plain.good(d, g));
            }
        }
    }

    private void service(int which) {
        int d = someDish();
        int i = pick(0, Math.max(0, plain.count(1) - 1));
        int j = pick(0, Math.max(0, plain.count(1) - 1));
        switch (which) {
            case 9 -> same("choose", bell.choose(d), plain.choose(d));
            case 10 -> same("leave", bell.leave(d), plain.leave(d));
            case 11 -> same("lay()", bell.lay(), plain.lay());
            case 12 -> same("layings()", bell.layings(), plain.layings());
            case 13 -> same("place", bell.place(i), plain.place(i));
            case 14 -> same("swap", bell.swap(i, j), plain.swap(i, j));
            case 15 -> same("change()", bell.change(), plain.change());
            default -> same("serve()", bell.serve(), plain.serve());
        }
        for (int place = 0; place < 9; place++) {
            same(call + ", then place(" + place + ")", bell.place(place), plain.place(place));
        }
        for (int dish = 0; dish < 20; dish++) {
            same("look(" + dish + ", 8)", bell.look(dish, 8), plain.look(dish, 8));
        }
    }

    private void fires(int which) {
        int d = someDish();
        int tick = pick(0, 47);
        switch (which) {
            case 17 -> {
                int what = pick(0, 4);
                int n = random.nextBoolean() ? pick(0, 3) : pick(0, 12);
                same("have(" + what + ", " + n + ")", bell.have(what, n), plain.have(what, n));
            }
            case 18 -> {
                int order = order();
                same("fire(" + order + ")", bell.fire(order), plain.fire(order));
            }
            case 19 -> same("bell()", bell.bell(), plain.bell());
            case 20 -> same("fired", bell.fired(d, tick % 3), plain.fired(d, tick % 3));
            case 21 -> same("waits()", bell.waits(), plain.waits());
            default -> same("hands", bell.hands(tick), plain.hands(tick));
        }
        for (int dish = 0; dish < 20; dish++) {
            for (int what = 0; what < 3; what++) {
                same(call + ", then fired(" + dish + ", " + what + ")", bell.fired(dish, what), plain.fired(dish, what));
            }
        }
    }

    /** Mostly an order that is one: the dishes that are chosen and not cold, mixed. */
    private int order() {
        int[] hot = new int[20];
        int n = 0;
        for (int d = 0; d < plain.count(0); d++) {
            if (plain.look(d, 8) >= 0 && plain.look(d, 0) != 0) {
                int at = random.nextInt(n + 1);
                hot[n++] = hot[at];
                hot[at] = d;
            }
        }
        int told = 0;
        for (int turn = 0; turn < Math.min(5, n); turn++) {
            told |= hot[turn] << 5 * turn;
        }
        return random.nextInt(6) == 0 ? told ^ 1 << random.nextInt(32) : told;
    }

    private void leavings(int which) {
        int d = someDish();
        int o = pick(0, Math.max(0, plain.count(2) - 1));
        switch (which) {
            case 23 -> {
                int rank = pick(0, 9);
                int appetite = pick(0, 50);
                int rights = pick(0, 31);
                same("officer", bell.officer(rank, appetite, rights), plain.officer(rank, appetite, rights));
            }
            case 24 -> {
                int n = pick(1, 40);
                same("left", bell.left(d, n), plain.left(d, n));
            }
            case 25 -> {
                d = random.nextBoolean() ? d : -1;
                same("eats", bell.eats(o, d), plain.eats(o, d));
            }
            case 26 -> same("eat()", bell.eat(), plain.eat());
            case 27 -> same("last()", bell.last(), plain.last());
            default -> {
                for (int what = -1; what < 9; what++) {
                    same("count(" + what + ")", bell.count(what), plain.count(what));
                }
            }
        }
    }

    private void shelves(int which) {
        int d = pick(0, 7);
        int e = pick(0, 7);
        int i = pick(0, 8);
        int j = pick(0, 8);
        int n = pick(0, 6);
        int k = someDish();
        switch (which) {
            case 29 -> same("keep", bell.keep(d, n, k), plain.keep(d, n, k));
            case 30 -> {
                int what = pick(3, 4);
                n = pick(0, 20);
                same("make", bell.make(d, what, n), plain.make(d, what, n));
            }
            case 31 -> {
                for (int place = -1; place < 9; place++) {
                    same("element(" + d + ", " + place + ")", element(d, place, false), element(d, place, true));
                }
            }
            case 32 -> same("copy", bell.copy(d, i, e, j, n), plain.copy(d, i, e, j, n));
            default -> {
                same("weight", bell.weight(d), plain.weight(d));
                same("toss", bell.toss(d), plain.toss(d));
            }
        }
    }

    private long element(int d, int i, boolean plainly) {
        try {
            return plainly ? plain.element(d, i) : bell.element(d, i);
        } catch (IllegalArgumentException thrown) {
            return -1001;
        } catch (IllegalStateException thrown) {
            return -1002;
        }
    }
}
