/** Promises 1 to 9: a new object, dishes and stores. */
public final class DishesTest {
    private static final Due DUE = new Due();

    public static void main(String[] args) {
        aNewObject();
        dishesCome();
        wrongDishes();
        dishesAreFull();
        needs();
        stores();
        failing();
        gaps();
        days();
        looks();
        lookWhetherItCanBe();
        goods();
        DUE.end();
    }

    // Promise 1
    private static void aNewObject() {
        KitchenBell b = new KitchenBell();
        int[] counts = {0, 0, 0, 0, 7, 0, 0, 0};
        for (int what = 0; what < counts.length; what++) {
            DUE.is("count(" + what + ")", b.count(what), counts[what]);
        }
        for (int good = 0; good < 8; good++) {
            DUE.is("good(-1, " + good + ")", b.good(-1, good), 0);
            DUE.is("fail(" + good + ", false)", b.fail(good, false), 0);
            DUE.elementThrows(b, good, 0, Due.ILLEGAL_STATE);
        }
        DUE.is("look(0, 0)", b.look(0, 0), -1);
        DUE.is("waits()", b.waits(), -3);
        DUE.is("have(0, 1)", b.have(0, 1), 1);
        DUE.is("have(1, 1)", b.have(1, 1), 1);
        DUE.is("have(2, 1)", b.have(2, 1), 1);
        DUE.is("have(3, 4)", b.have(3, 4), 4);
        DUE.is("have(4, 2)", b.have(4, 2), 2);
        b.dish(0, 1, 0, 0);
        DUE.is("another new one's count(0)", new KitchenBell().count(0), 0);
    }

    // Promise 2
    private static void dishesCome() {
        KitchenBell b = new KitchenBell();
        DUE.is("dish COLD, any fire and heat", b.dish(4, 3, Integer.MIN_VALUE, Integer.MAX_VALUE), 0);
        DUE.is("dish COLD, told 0", b.dish(0, 1, -5, -5), 1);
        DUE.is("dish HOT, any heat", b.dish(10, 1, 11, -7), 2);
        DUE.is("dish ROAST, any heat", b.dish(24, 2, 123, 99), 3);
        DUE.is("dish BAKED, heat 1", b.dish(30, 3, 12, 1), 4);
        DUE.is("dish BAKED, heat 9", b.dish(34, 3, 101, 9), 5);
        DUE.is("dish GILDED, any heat", b.dish(44, 3, 13, 10), 6);
        DUE.is("count(0)", b.count(0), 7);
        int[] times = {0, 0, 1, 12, 1, 10, 2};
        for (int dish = 0; dish < 7; dish++) {
            DUE.is("look(" + dish + ", 3)", b.look(dish, 3), times[dish]);
        }
    }

    private static void wrongDishes() {
        KitchenBell b = new KitchenBell();
        int[][] wrong = {
            {-1, 1, 11, 1}, {-10, 1, 11, 1}, {5, 1, 11, 1}, {9, 1, 11, 1}, {15, 1, 11, 1}, {29, 1, 11, 1},
            {45, 1, 11, 1}, {50, 1, 11, 1}, {Integer.MIN_VALUE, 1, 11, 1}, {Integer.MAX_VALUE, 1, 11, 1},
            {0, 0, 11, 1}, {0, 4, 11, 1}, {10, -1, 11, 1}, {10, Integer.MAX_VALUE, 11, 1},
            {10, 1, 0, 1}, {10, 1, 3, 1}, {10, 1, 10, 1}, {10, 1, 14, 1}, {10, 1, 20, 1}, {10, 1, 120, 1},
            {10, 1, 124, 1}, {10, 1, 131, 1}, {20, 1, -11, 1}, {40, 1, 131, 1}, {40, 1, 14, 1},
            {10, 1, Integer.MIN_VALUE, 1}, {10, 1, Integer.MAX_VALUE, 1},
            {30, 1, 11, 0}, {30, 1, 11, 10}, {30, 1, 11, -1}, {34, 1, 130, 5},
        };
        for (int[] w : wrong) {
            DUE.is("dish(" + w[0] + ", " + w[1] + ", " + w[2] + ", " + w[3] + ")", b.dish(w[0], w[1], w[2], w[3]), -1);
        }
        DUE.is("count(0) after wrong ones", b.count(0), 0);
    }

    private static void dishesAreFull() {
        KitchenBell b = new KitchenBell();
        for (int n = 0; n < 20; n++) {
            DUE.is("dish, the number", b.dish(0, 1, 0, 0), n);
        }
        DUE.is("dish, a wrong one while full", b.dish(0, 4, 0, 0), -1);
        DUE.is("dish, the 21st", b.dish(0, 1, 0, 0), -2);
        DUE.is("count(0)", b.count(0), 20);
        DUE.is("look(19, 1)", b.look(19, 1), 1);
        DUE.is("look(20, 1)", b.look(20, 1), -1);
    }

    // Promise 3
    private static void needs() {
        KitchenBell b = new KitchenBell();
        b.dish(0, 1, 0, 0);
        b.dish(1, 1, 0, 0);
        DUE.is("needs(0, 3, 9)", b.needs(0, 3, 9), 0);
        DUE.is("needs(0, 3, 2)", b.needs(0, 3, 2), 9);
        DUE.is("needs(0, 7, 1)", b.needs(0, 7, 1), 0);
        DUE.is("needs(0, 3, 10)", b.needs(0, 3, 10), -1);
        DUE.is("needs(0, 3, -1)", b.needs(0, 3, -1), -1);
        DUE.is("needs(0, 8, 1)", b.needs(0, 8, 1), -1);
        DUE.is("needs(0, -1, 1)", b.needs(0, -1, 1), -1);
        DUE.is("needs(2, 0, 1)", b.needs(2, 0, 1), -1);
        DUE.is("needs(-1, 0, 1)", b.needs(-1, 0, 1), -1);
        DUE.is("good(0, 3)", b.good(0, 3), 2);
        DUE.is("good(1, 3)", b.good(1, 3), 0);
        DUE.is("needs(0, 3, 0)", b.needs(0, 3, 0), 2);
        DUE.is("good(0, 3) again", b.good(0, 3), 0);
    }

    // Promise 4
    private static void stores() {
        KitchenBell b = new KitchenBell();
        DUE.is("store(0, 1)", b.store(0, 1), 1);
        DUE.is("store(0, 0)", b.store(0, 0), -1);
        DUE.is("store(0, -1)", b.store(0, -1), -1);
        DUE.is("store(0, 1001)", b.store(0, 1001), -1);
        DUE.is("store(0, max)", b.store(0, Integer.MAX_VALUE), -1);
        DUE.is("store(-1, 5)", b.store(-1, 5), -1);
        DUE.is("store(8, 5)", b.store(8, 5), -1);
        for (int n = 1; n <= 99; n++) {
            DUE.is("store(0, 1000)", b.store(0, 1000), 1000 * n + 1);
        }
        DUE.is("store(0, 1000) above 100000", b.store(0, 1000), -2);
        DUE.is("store(0, 1001) above 100000", b.store(0, 1001), -1);
        DUE.is("store(0, 999) up to 100000", b.store(0, 999), 100000);
        DUE.is("store(0, 1) above 100000", b.store(0, 1), -2);
        DUE.is("good(-1, 0)", b.good(-1, 0), 100000);
        DUE.is("store(7, 1000)", b.store(7, 1000), 1000);
    }

    // Promise 5
    private static void failing() {
        KitchenBell b = new KitchenBell();
        DUE.is("fail(2, false)", b.fail(2, false), 0);
        DUE.is("fail(2, true)", b.fail(2, true), 1);
        DUE.is("fail(2, true) again", b.fail(2, true), 0);
        DUE.is("fail(3, false), another", b.fail(3, false), 0);
        DUE.is("fail(2, false) after", b.fail(2, false), 1);
        DUE.is("fail(-1, true)", b.fail(-1, true), -1);
        DUE.is("fail(8, false)", b.fail(8, false), -1);
    }

    // Promise 6
    private static void gaps() {
        KitchenBell b = new KitchenBell();
        DUE.is("gap(30)", b.gap(30), 7);
        DUE.is("gap(31)", b.gap(31), -1);
        DUE.is("gap(-1)", b.gap(-1), -1);
        DUE.is("gap(0)", b.gap(0), 30);
        DUE.is("count(4)", b.count(4), 0);
        b.dish(0, 1, 0, 0);
        b.choose(0);
        b.lay();
        b.serve();
        DUE.is("look(0, 7), gap 0, a day later", b.look(0, 7), 1);
        b.gap(1);
        DUE.is("look(0, 7), gap 1, a day later", b.look(0, 7), 1);
        b.gap(2);
        DUE.is("look(0, 7), gap 2, a day later", b.look(0, 7), 0);
        b.day(1);
        DUE.is("look(0, 7), gap 2, two days later", b.look(0, 7), 1);
        b.gap(30);
        b.day(27);
        DUE.is("look(0, 7), gap 30, 29 days later", b.look(0, 7), 0);
        b.day(1);
        DUE.is("look(0, 7), gap 30, 30 days later", b.look(0, 7), 1);
    }

    // Promise 7
    private static void days() {
        KitchenBell b = new KitchenBell();
        DUE.is("day(1)", b.day(1), 1);
        DUE.is("day(0)", b.day(0), -1);
        DUE.is("day(-3)", b.day(-3), -1);
        DUE.is("day(101)", b.day(101), -1);
        DUE.is("day(100)", b.day(100), 101);
        DUE.is("count(3)", b.count(3), 101);
        // More calls than are promised; the limit can't be met with fewer.
        for (int n = 0; n < 998; n++) {
            b.day(100);
        }
        DUE.is("count(3) near the limit", b.count(3), 99901);
        DUE.is("day(100) above the limit", b.day(100), -2);
        DUE.is("day(101) above the limit", b.day(101), -1);
        DUE.is("day(99) up to the limit", b.day(99), 100000);
        DUE.is("day(1) above the limit", b.day(1), -2);
    }

    // Promise 8
    private static void looks() {
        KitchenBell b = new KitchenBell();
        b.dish(3, 2, 77, 8);
        b.dish(12, 1, 63, 8);
        b.dish(20, 3, 121, 8);
        b.dish(34, 2, 32, 6);
        b.dish(41, 1, 123, 8);
        int[][] want = {
            {0, 2, 3, 0, 0, 0, -2, 1, -2}, {1, 1, 2, 6, 3, 0, -2, 1, -2}, {2, 3, 0, 12, 1, 0, -2, 1, -2},
            {3, 2, 4, 3, 2, 6, -2, 1, -2}, {4, 1, 1, 13, 4, 0, -2, 1, -2},
        };
        for (int dish = 0; dish < 5; dish++) {
            for (int what = 0; what < 9; what++) {
                DUE.is("look(" + dish + ", " + what + ")", b.look(dish, what), want[dish][what]);
            }
            DUE.is("look(" + dish + ", 9)", b.look(dish, 9), -1);
            DUE.is("look(" + dish + ", -1)", b.look(dish, -1), -1);
        }
        DUE.is("look(5, 0)", b.look(5, 0), -1);
        DUE.is("look(-1, 0)", b.look(-1, 0), -1);
        DUE.is("look(max, 0)", b.look(Integer.MAX_VALUE, 0), -1);
        b.day(4);
        b.choose(3);
        b.choose(0);
        DUE.is("look(3, 8), CHOSEN first", b.look(3, 8), 0);
        DUE.is("look(0, 8), CHOSEN next", b.look(0, 8), 1);
        b.leave(3);
        DUE.is("look(0, 8), the one before left", b.look(0, 8), 0);
        DUE.is("look(3, 8), left", b.look(3, 8), -2);
        b.lay();
        b.serve();
        DUE.is("look(0, 6)", b.look(0, 6), 4);
        DUE.is("look(3, 6)", b.look(3, 6), -2);
        DUE.is("look(0, 8), SERVED", b.look(0, 8), -2);
    }

    private static void lookWhetherItCanBe() {
        KitchenBell b = new KitchenBell();
        b.dish(0, 1, 0, 0);
        b.needs(0, 5, 3);
        DUE.is("look(0, 7), nothing in store", b.look(0, 7), 0);
        b.store(5, 2);
        DUE.is("look(0, 7), less in store", b.look(0, 7), 0);
        b.store(5, 1);
        DUE.is("look(0, 7), as much in store", b.look(0, 7), 1);
        b.fail(4, true);
        DUE.is("look(0, 7), another FAILED", b.look(0, 7), 1);
        b.fail(5, true);
        DUE.is("look(0, 7), FAILED", b.look(0, 7), 0);
        b.needs(0, 5, 0);
        DUE.is("look(0, 7), not NEEDED any more", b.look(0, 7), 1);
        b.choose(0);
        b.lay();
        b.serve();
        DUE.is("look(0, 7), SERVED the day before", b.look(0, 7), 0);
        b.day(5);
        DUE.is("look(0, 7), 6 days later", b.look(0, 7), 0);
        b.day(1);
        DUE.is("look(0, 7), 7 days later", b.look(0, 7), 1);
    }

    // Promise 9
    private static void goods() {
        KitchenBell b = new KitchenBell();
        b.dish(0, 1, 0, 0);
        b.needs(0, 0, 4);
        b.store(0, 11);
        b.store(7, 12);
        DUE.is("good(0, 0)", b.good(0, 0), 4);
        DUE.is("good(0, 7)", b.good(0, 7), 0);
        DUE.is("good(-1, 0)", b.good(-1, 0), 11);
        DUE.is("good(-1, 7)", b.good(-1, 7), 12);
        DUE.is("good(-2, 0)", b.good(-2, 0), -1);
        DUE.is("good(1, 0)", b.good(1, 0), -1);
        DUE.is("good(0, 8)", b.good(0, 8), -1);
        DUE.is("good(0, -1)", b.good(0, -1), -1);
        DUE.is("good(-1, 8)", b.good(-1, 8), -1);
        DUE.is("good(-1, -1)", b.good(-1, -1), -1);
        DUE.is("good(min, 0)", b.good(Integer.MIN_VALUE, 0), -1);
    }
}
