/** The edges of promises 1 to 9, sentence by sentence of the document. */
public final class DishEdgesTest {
    private static final int MIN = Integer.MIN_VALUE;
    private static final int MAX = Integer.MAX_VALUE;
    private static final Due DUE = new Due();
    private static final Refusals EMPTY = new Refusals(DUE, "(nothing there)", KitchenBell::new);
    private static final Refusals BUSY = new Refusals(DUE, "(busy)", Kitchens::busy);
    private static final Refusals FULL = new Refusals(DUE, "(all full)", Kitchens::full);

    public static void main(String[] args) {
        nothingIsThereAtFirst();
        noGoodIsInStoreNorFailedAtFirst();
        theKindAndColourTold();
        theSize();
        theTimeAndHands();
        theHeat();
        whatColdAndOthersAreToldIsAny();
        gildedOnesTakeOneMore();
        twentyDishesAndNoMore();
        wrongAheadOfTwenty();
        needsOfWhat();
        needsFromNoneToNine();
        storeOfWhat();
        storeUpToItsLimit();
        wrongAheadOfTheStoresLimit();
        failOfWhat();
        failTellsWhetherItWasOtherwise();
        gapFromNoneToThirty();
        dayByDay();
        theLastDay();
        lookAtWhat();
        lookAtNothing();
        goodOfWhat();
        canBeIfNoneNeededFailed();
        canBeIfAsMuchIsInStore();
        canBeBehindTheGap();
        canBeWithoutAGap();
        canBeBehindTheLongestGap();
        neverServedIsNoDay();
        DUE.end();
    }

    // "No DISHES, no OFFICERS; THE DAY is 0."
    private static void nothingIsThereAtFirst() {
        int[] counts = {0, 0, 0, 0, 7, 0, 0, 0};
        for (int what = 0; what < 8; what++) {
            int asked = what;
            EMPTY.taken("count(" + what + ")", counts[what], b -> b.count(asked));
        }
        EMPTY.refused("look(0, 0)", -1, b -> b.look(0, 0));
        EMPTY.refused("needs(0, 0, 0)", -1, b -> b.needs(0, 0, 0));
        EMPTY.refused("good(0, 0)", -1, b -> b.good(0, 0));
        EMPTY.refused("choose(0)", -1, b -> b.choose(0));
        EMPTY.refused("leave(0)", -1, b -> b.leave(0));
        EMPTY.refused("left(0, 1)", -1, b -> b.left(0, 1));
        EMPTY.refused("fired(0, 0)", -1, b -> b.fired(0, 0));
        EMPTY.refused("eats(0, -1)", -1, b -> b.eats(0, -1));
        EMPTY.refused("keep(0, 1, 0)", -1, b -> b.keep(0, 1, 0));
        EMPTY.refused("keep(0, 4, 0)", -1, b -> b.keep(0, 4, 0));
        EMPTY.taken("gap(30)", 7, b -> b.gap(30));
        EMPTY.taken("day(1)", 1, b -> b.day(1));
        EMPTY.taken("dish, the first", 0, b -> b.dish(0, 1, 0, 0));
        EMPTY.taken("officer, the first", 0, b -> b.officer(0, 0, 0));
    }

    // "how much is in store (0 .. 100000; 0 at first); each may have FAILED (at first none has)"
    private static void noGoodIsInStoreNorFailedAtFirst() {
        for (int g = 0; g < 8; g++) {
            int good = g;
            EMPTY.taken("good(-1, " + g + ")", 0, b -> b.good(-1, good));
            EMPTY.taken("fail(" + g + ", true)", 1, b -> b.fail(good, true));
            EMPTY.taken("fail(" + g + ", false)", 0, b -> b.fail(good, false));
            EMPTY.taken("store(" + g + ", 1)", 1, b -> b.store(good, 1));
        }
    }

    // "KIND and COLOUR told as 10 * KIND + COLOUR"; KINDS 0 .. 4, COLOURS 0 .. 4
    private static void theKindAndColourTold() {
        for (int t = -15; t <= 65; t++) {
            int told = t;
            boolean right = t >= 0 && t <= 44 && t % 10 <= 4;
            KitchenBell b = new KitchenBell();
            DUE.is("dish(" + t + ", 1, 11, 1)", b.dish(told, 1, 11, 1), right ? 0 : -1);
            DUE.is("look(0, 0) of " + t, b.look(0, 0), right ? t / 10 : -1);
            DUE.is("look(0, 2) of " + t, b.look(0, 2), right ? t % 10 : -1);
        }
        BUSY.range("dish(n, 1, 11, 1)", 0, 44, (b, n) -> b.dish(n, 1, 11, 1));
        for (int t : new int[] {5, 9, 15, 25, 35, 39, -5, 100, 104}) {
            int told = t;
            BUSY.refused("dish(" + t + ", 1, 11, 1)", -1, b -> b.dish(told, 1, 11, 1));
        }
    }

    // "A DISH has a SIZE 1 .. 3"
    private static void theSize() {
        for (int kind = 0; kind < 5; kind++) {
            int told = 10 * kind;
            BUSY.range("dish(" + told + ", n, 11, 1)", 1, 3, (b, n) -> b.dish(told, n, 11, 1));
        }
        for (int size = 1; size <= 3; size++) {
            KitchenBell b = new KitchenBell();
            b.dish(30, size, 11, 1);
            DUE.is("look(0, 1)", b.look(0, 1), size);
        }
    }

    // "those that are not COLD a TIME 1 .. 12 .. HANDS 1 .. 3", "TIME and HANDS as 10 * TIME + HANDS"
    private static void theTimeAndHands() {
        for (int kind = 1; kind < 5; kind++) {
            for (int fire = -25; fire <= 145; fire++) {
                boolean right = fire >= 11 && fire <= 123 && fire % 10 >= 1 && fire % 10 <= 3;
                KitchenBell b = new KitchenBell();
                String told = "dish(" + 10 * kind + ", 1, " + fire + ", 5)";
                DUE.is(told, b.dish(10 * kind, 1, fire, 5), right ? 0 : -1);
                DUE.is("look(0, 3) of " + told, b.look(0, 3), right ? fire / 10 + kind / 4 : -1);
                DUE.is("look(0, 4) of " + told, b.look(0, 4), right ? fire % 10 + kind / 4 : -1);
            }
            int told = 10 * kind;
            BUSY.range("dish(" + told + ", 1, n, 5)", 11, 123, (b, n) -> b.dish(told, 1, n, 5));
            // no HANDS, too many, no TIME, too long
            for (int f : new int[] {20, 14, 1, 131}) {
                BUSY.refused("dish(" + told + ", 1, " + f + ", 5)", -1, b -> b.dish(told, 1, f, 5));
            }
        }
    }

    // "BAKED ones a HEAT 1 .. 9"
    private static void theHeat() {
        BUSY.range("dish(30, 1, 11, n)", 1, 9, (b, n) -> b.dish(30, 1, 11, n));
        for (int heat = 1; heat <= 9; heat++) {
            KitchenBell b = new KitchenBell();
            b.dish(30, 1, 11, heat);
            DUE.is("look(0, 5)", b.look(0, 5), heat);
        }
    }

    // "(of COLD ones any), HEAT (of others any)"
    private static void whatColdAndOthersAreToldIsAny() {
        for (int any : new int[] {MIN, -1, 0, 10, 14, 124, MAX}) {
            for (int kind = 0; kind < 5; kind++) {
                if (kind == 3) {
                    continue;
                }
                KitchenBell b = new KitchenBell();
                DUE.is("dish of KIND " + kind + ", heat " + any, b.dish(10 * kind, 1, kind == 0 ? any : 11, any), 0);
                DUE.is("look(0, 5), its heat", b.look(0, 5), 0);
                if (kind == 0) {
                    DUE.is("look(0, 3), its time", b.look(0, 3), 0);
                    DUE.is("look(0, 4), its hands", b.look(0, 4), 0);
                }
            }
        }
    }

    // "of GILDED ones one more is TAKEN than told"
    private static void gildedOnesTakeOneMore() {
        KitchenBell b = new KitchenBell();
        b.dish(40, 1, 11, 0);
        b.dish(40, 1, 123, 0);
        b.dish(20, 1, 123, 0);
        DUE.is("look(0, 3), the shortest", b.look(0, 3), 2);
        DUE.is("look(0, 4), the least hands", b.look(0, 4), 2);
        DUE.is("look(1, 3), the longest", b.look(1, 3), 13);
        DUE.is("look(1, 4), the most hands", b.look(1, 4), 4);
        DUE.is("look(2, 3) of ROAST", b.look(2, 3), 12);
        DUE.is("look(2, 4) of ROAST", b.look(2, 4), 3);
    }

    // "DISHES 0 .. 19 as they come", "-2: there are 20"
    private static void twentyDishesAndNoMore() {
        KitchenBell b = new KitchenBell();
        for (int number = 0; number < 20; number++) {
            DUE.is("dish, its number", b.dish(number % 5 * 10, 1, 11, 1), number);
        }
        DUE.is("count(0)", b.count(0), 20);
        for (int kind = 0; kind < 5; kind++) {
            int told = 10 * kind;
            FULL.refused("dish(" + told + ", 1, 11, 1)", -2, k -> k.dish(told, 1, 11, 1));
        }
    }

    // "Answers of several refusals are the first one here: -1 .. -2"
    private static void wrongAheadOfTwenty() {
        FULL.refused("dish(45, 1, 11, 1)", -1, b -> b.dish(45, 1, 11, 1));
        FULL.refused("dish(-1, 1, 11, 1)", -1, b -> b.dish(-1, 1, 11, 1));
        FULL.refused("dish(10, 0, 11, 1)", -1, b -> b.dish(10, 0, 11, 1));
        FULL.refused("dish(10, 4, 11, 1)", -1, b -> b.dish(10, 4, 11, 1));
        FULL.refused("dish(10, 1, 10, 1)", -1, b -> b.dish(10, 1, 10, 1));
        FULL.refused("dish(10, 1, 131, 1)", -1, b -> b.dish(10, 1, 131, 1));
        FULL.refused("dish(30, 1, 11, 0)", -1, b -> b.dish(30, 1, 11, 0));
        FULL.refused("dish(30, 1, 11, 10)", -1, b -> b.dish(30, 1, 11, 10));
    }

    // "A DISH NEEDS n of a GOOD .. -1."
    private static void needsOfWhat() {
        BUSY.range("needs(n, 0, 9)", 0, Kitchens.BUSY_DISHES - 1, (b, n) -> b.needs(n, 0, 9));
        BUSY.range("needs(0, n, 9)", 0, 7, (b, n) -> b.needs(0, n, 9));
        FULL.range("needs(n, 7, 1)", 0, 19, (b, n) -> b.needs(n, 7, 1));
        BUSY.refused("needs(-1, 8, 10)", -1, b -> b.needs(-1, 8, 10));
    }

    // "It NEEDS so much (0 .. 9) of each of the GOODS (0 at first)", "how much before"
    private static void needsFromNoneToNine() {
        BUSY.range("needs(0, 0, n)", 0, 9, (b, n) -> b.needs(0, 0, n));
        KitchenBell b = new KitchenBell();
        b.dish(0, 1, 0, 0);
        for (int good = 0; good < 8; good++) {
            DUE.is("needs, the first", b.needs(0, good, 9), 0);
            DUE.is("needs, after the most", b.needs(0, good, 0), 9);
            DUE.is("needs, after none", b.needs(0, good, 9), 0);
            DUE.is("good(0, " + good + ")", b.good(0, good), 9);
        }
    }

    // "n (1 .. 1000) of a GOOD come"
    private static void storeOfWhat() {
        BUSY.range("store(n, 1)", 0, 7, (b, n) -> b.store(n, 1));
        BUSY.range("store(0, n)", 1, 1000, (b, n) -> b.store(0, n));
    }

    // "-2: more than 100000"
    private static void storeUpToItsLimit() {
        FULL.taken("good(-1, 0)", 100000, b -> b.good(-1, 0));
        FULL.refused("store(0, 1)", -2, b -> b.store(0, 1));
        FULL.refused("store(0, 1000)", -2, b -> b.store(0, 1000));
        FULL.taken("store(1, 1000) of another", 1000, b -> b.store(1, 1000));
        Refusals near = new Refusals(DUE, "(99001 in store)", () -> Kitchens.stored(99001));
        near.taken("store(0, 999)", 100000, b -> b.store(0, 999));
        near.refused("store(0, 1000)", -2, b -> b.store(0, 1000));
    }

    private static void wrongAheadOfTheStoresLimit() {
        FULL.refused("store(0, 0)", -1, b -> b.store(0, 0));
        FULL.refused("store(0, -1)", -1, b -> b.store(0, -1));
        FULL.refused("store(0, 1001)", -1, b -> b.store(0, 1001));
        FULL.refused("store(0, max)", -1, b -> b.store(0, MAX));
    }

    private static void failOfWhat() {
        BUSY.range("fail(n, true)", 0, 7, (b, n) -> b.fail(n, true));
        BUSY.range("fail(n, false)", 0, 7, (b, n) -> b.fail(n, false));
    }

    // "1 if it was otherwise, else 0"
    private static void failTellsWhetherItWasOtherwise() {
        KitchenBell b = new KitchenBell();
        for (int good = 0; good < 8; good++) {
            DUE.is("fail(g, false) at first", b.fail(good, false), 0);
            DUE.is("fail(g, true)", b.fail(good, true), 1);
            DUE.is("fail(g, true) again", b.fail(good, true), 0);
            DUE.is("fail(g, false)", b.fail(good, false), 1);
            DUE.is("fail(g, false) again", b.fail(good, false), 0);
        }
    }

    // "GAP (0 .. 30; 7 at first)", "GAP: the one before"
    private static void gapFromNoneToThirty() {
        BUSY.range("gap(n)", 0, 30, KitchenBell::gap);
        KitchenBell b = new KitchenBell();
        DUE.is("gap(0)", b.gap(0), 7);
        DUE.is("count(4), the least", b.count(4), 0);
        DUE.is("gap(30)", b.gap(30), 0);
        DUE.is("count(4), the most", b.count(4), 30);
        DUE.is("gap(30) again", b.gap(30), 30);
    }

    // "THE DAY goes n (1 .. 100) on: what it is. -1"
    private static void dayByDay() {
        BUSY.range("day(n)", 1, 100, KitchenBell::day);
        KitchenBell b = new KitchenBell();
        DUE.is("day(1)", b.day(1), 1);
        DUE.is("day(100)", b.day(100), 101);
        DUE.is("day(1) again", b.day(1), 102);
    }

    // "-2: above 100000": 1000 calls lead there at the least, more than are promised
    private static void theLastDay() {
        KitchenBell b = new KitchenBell();
        for (int n = 0; n < 999; n++) {
            b.day(100);
        }
        DUE.is("day(99)", b.day(99), 99999);
        DUE.is("day(2)", b.day(2), -2);
        DUE.is("count(3), refused", b.count(3), 99999);
        DUE.is("day(1)", b.day(1), 100000);
        DUE.is("day(1) above", b.day(1), -2);
        DUE.is("day(0) above", b.day(0), -1);
        DUE.is("day(101) above", b.day(101), -1);
        DUE.is("count(3)", b.count(3), 100000);
    }

    private static void lookAtWhat() {
        for (int w = 0; w < 9; w++) {
            int what = w;
            BUSY.range("look(n, " + w + ")", 0, Kitchens.BUSY_DISHES - 1, (b, n) -> b.look(n, what));
        }
        BUSY.range("look(0, n)", 0, 8, (b, n) -> b.look(0, n));
        FULL.range("look(n, 0)", 0, 19, (b, n) -> b.look(n, 0));
    }

    // "6 the DAY on which it was SERVED last (-2: never) .. 8 its place in the order of those CHOSEN (-2: none)"
    private static void lookAtNothing() {
        KitchenBell b = new KitchenBell();
        b.dish(4, 3, 0, 0);
        int[] want = {0, 3, 4, 0, 0, 0, -2, 1, -2};
        for (int what = 0; what < 9; what++) {
            DUE.is("look(0, " + what + ")", b.look(0, what), want[what]);
        }
        b.choose(0);
        DUE.is("look(0, 8), CHOSEN alone", b.look(0, 8), 0);
        b.lay();
        b.serve();
        DUE.is("look(0, 6), on the first DAY", b.look(0, 6), 0);
        DUE.is("look(0, 8), SERVED", b.look(0, 8), -2);
        KitchenBell nine = Kitchens.chosen(9);
        DUE.is("look(8, 8), the ninth", nine.look(8, 8), 8);
    }

    // "How much of a GOOD a DISH NEEDS; how much is in store (dish = -1)"
    private static void goodOfWhat() {
        BUSY.range("good(n, 0)", -1, Kitchens.BUSY_DISHES - 1, (b, n) -> b.good(n, 0));
        BUSY.range("good(-1, n)", 0, 7, (b, n) -> b.good(-1, n));
        BUSY.range("good(0, n)", 0, 7, (b, n) -> b.good(0, n));
        EMPTY.range("good(-1, n)", 0, 7, (b, n) -> b.good(-1, n));
        FULL.range("good(n, 7)", -1, 19, (b, n) -> b.good(n, 7));
    }

    // "none of those that it NEEDS FAILED"
    private static void canBeIfNoneNeededFailed() {
        for (int good = 0; good < 8; good++) {
            KitchenBell b = new KitchenBell();
            b.dish(0, 1, 0, 0);
            b.store(good, 1);
            b.fail(good, true);
            DUE.is("look(0, 7), NEEDS 0 of what FAILED", b.look(0, 7), 1);
            b.needs(0, good, 1);
            DUE.is("look(0, 7), NEEDS 1 of what FAILED", b.look(0, 7), 0);
            DUE.is("count(7)", b.count(7), 0);
            b.fail(good, false);
            DUE.is("look(0, 7), not FAILED any more", b.look(0, 7), 1);
            DUE.is("count(7)", b.count(7), 1);
        }
    }

    // "there is as much in store"
    private static void canBeIfAsMuchIsInStore() {
        for (int good = 0; good < 8; good++) {
            KitchenBell b = new KitchenBell();
            b.dish(0, 1, 0, 0);
            b.needs(0, good, 9);
            b.store(good, 8);
            DUE.is("look(0, 7), 8 of 9", b.look(0, 7), 0);
            b.store(good, 1);
            DUE.is("look(0, 7), 9 of 9", b.look(0, 7), 1);
            b.needs(0, (good + 1) % 8, 1);
            DUE.is("look(0, 7), none of another", b.look(0, 7), 0);
            b.needs(0, (good + 1) % 8, 0);
            DUE.is("look(0, 7), none of what isn't NEEDED", b.look(0, 7), 1);
        }
    }

    private static KitchenBell servedOnDay(int day, int gap) {
        KitchenBell b = new KitchenBell();
        b.dish(0, 1, 0, 0);
        b.gap(gap);
        if (day > 0) {
            b.day(day);
        }
        b.choose(0);
        b.lay();
        b.serve();
        return b;
    }

    // "it wasn't SERVED within the GAP: on a DAY later than THE DAY less GAP"
    private static void canBeBehindTheGap() {
        for (int day : new int[] {0, 1, 50}) {
            KitchenBell b = servedOnDay(day, 7);
            DUE.is("look(0, 7), a DAY later", b.look(0, 7), 0);
            b.day(5);
            DUE.is("look(0, 7), GAP less 1 DAYS later", b.look(0, 7), 0);
            DUE.is("choose(0), GAP less 1 DAYS later", b.choose(0), -3);
            b.day(1);
            DUE.is("look(0, 7), GAP DAYS later", b.look(0, 7), 1);
            DUE.is("choose(0), GAP DAYS later", b.choose(0), 1);
            b.gap(8);
            DUE.is("look(0, 7), GAP one more", b.look(0, 7), 0);
        }
    }

    private static void canBeWithoutAGap() {
        DUE.is("look(0, 7), GAP 0, a DAY later", servedOnDay(0, 0).look(0, 7), 1);
        DUE.is("look(0, 7), GAP 1, a DAY later", servedOnDay(0, 1).look(0, 7), 1);
        DUE.is("look(0, 7), GAP 2, a DAY later", servedOnDay(0, 2).look(0, 7), 0);
    }

    private static void canBeBehindTheLongestGap() {
        KitchenBell b = servedOnDay(0, 30);
        b.day(28);
        DUE.is("look(0, 7), GAP 30, 29 DAYS later", b.look(0, 7), 0);
        b.day(1);
        DUE.is("look(0, 7), GAP 30, 30 DAYS later", b.look(0, 7), 1);
    }

    // "-2: never"; on the first DAYS, THE DAY less GAP is below that
    private static void neverServedIsNoDay() {
        KitchenBell b = new KitchenBell();
        b.dish(0, 1, 0, 0);
        b.gap(30);
        DUE.is("look(0, 6)", b.look(0, 6), -2);
        DUE.is("look(0, 7) on DAY 0, GAP 30", b.look(0, 7), 1);
        b.day(1);
        DUE.is("look(0, 7) on DAY 1, GAP 30", b.look(0, 7), 1);
        DUE.is("choose(0)", b.choose(0), 1);
    }
}
