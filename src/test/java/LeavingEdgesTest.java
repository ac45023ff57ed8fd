/** The edges of promises 24 to 29, sentence by sentence of the document. */
public final class LeavingEdgesTest {
    private static final Due DUE = new Due();
    private static final Refusals EMPTY = new Refusals(DUE, "(nothing there)", KitchenBell::new);
    private static final Refusals BUSY = new Refusals(DUE, "(busy)", Kitchens::busy);
    private static final Refusals FULL = new Refusals(DUE, "(all full)", Kitchens::full);

    public static void main(String[] args) {
        officerOfWhat();
        eightOfficersAndNoMore();
        leftOfWhat();
        leftUpToNinetyNine();
        eatsOfWhat();
        eatsWithNothingLeft();
        eatsWithoutAppetite();
        eatsToTheAppetite();
        eatsWithoutRight();
        eatsByTheBitsOfRights();
        eatsByNumbersOfDishes();
        eatsByRank();
        eightEatByRank();
        eatsByNumbersOfLikeRank();
        eatsOfAMindOnly();
        eatOfNothing();
        eatAll();
        eatAndLeaveAgain();
        lastOfNone();
        lastOfThoseThatHaveSomething();
        countOfWhat();
        countOfAsMuchAsThereMayBe();
        DUE.end();
    }

    /** One DISH of each KIND. */
    private static KitchenBell kinds() {
        KitchenBell b = new KitchenBell();
        for (int kind = 0; kind < 5; kind++) {
            b.dish(10 * kind, 1, 11, 1);
        }
        return b;
    }

    private static KitchenBell kindsLeft(int each) {
        KitchenBell b = kinds();
        for (int dish = 0; dish < 5; dish++) {
            b.left(dish, each);
        }
        return b;
    }

    // "a RANK 0 .. 9, an APPETITE 0 .. 50, RIGHTS to KINDS (bits)"
    private static void officerOfWhat() {
        BUSY.range("officer(n, 1, 1)", 0, 9, (b, n) -> b.officer(n, 1, 1));
        BUSY.range("officer(1, n, 1)", 0, 50, (b, n) -> b.officer(1, n, 1));
        BUSY.range("officer(1, 1, n)", 0, 31, (b, n) -> b.officer(1, 1, n));
        EMPTY.range("officer(n, 50, 31)", 0, 9, (b, n) -> b.officer(n, 50, 31));
        BUSY.refused("officer(1, 1, 33)", -1, b -> b.officer(1, 1, 33));
        BUSY.refused("officer(10, 51, 32)", -1, b -> b.officer(10, 51, 32));
    }

    // "OFFICERS 0 .. 7 as they come", "-2: there are 8", behind -1
    private static void eightOfficersAndNoMore() {
        KitchenBell b = new KitchenBell();
        for (int number = 0; number < 8; number++) {
            DUE.is("officer, its number", b.officer(9 - number, number, number), number);
            DUE.is("count(2)", b.count(2), number + 1);
        }
        FULL.refused("officer(0, 0, 0)", -2, k -> k.officer(0, 0, 0));
        FULL.refused("officer(9, 50, 31)", -2, k -> k.officer(9, 50, 31));
        FULL.refused("officer(10, 0, 0)", -1, k -> k.officer(10, 0, 0));
        FULL.refused("officer(-1, 0, 0)", -1, k -> k.officer(-1, 0, 0));
        FULL.refused("officer(0, 51, 0)", -1, k -> k.officer(0, 51, 0));
        FULL.refused("officer(0, -1, 0)", -1, k -> k.officer(0, -1, 0));
        FULL.refused("officer(0, 0, 32)", -1, k -> k.officer(0, 0, 32));
        FULL.refused("officer(0, 0, -1)", -1, k -> k.officer(0, 0, -1));
    }

    // "n (1 .. 99) more are left of a DISH"
    private static void leftOfWhat() {
        BUSY.range("left(n, 1)", 0, Kitchens.BUSY_DISHES - 1, (b, n) -> b.left(n, 1));
        BUSY.range("left(2, n)", 1, 99, (b, n) -> b.left(2, n));
        BUSY.refused("left(7, 100)", -1, b -> b.left(7, 100));
        EMPTY.refused("left(0, 1)", -1, b -> b.left(0, 1));
        EMPTY.refused("left(-1, 1)", -1, b -> b.left(-1, 1));
    }

    // "how much", "-2: more than 99", behind -1
    private static void leftUpToNinetyNine() {
        FULL.refused("left(0, 1)", -2, b -> b.left(0, 1));
        FULL.refused("left(19, 99)", -2, b -> b.left(19, 99));
        FULL.refused("left(0, 0)", -1, b -> b.left(0, 0));
        FULL.refused("left(0, 100)", -1, b -> b.left(0, 100));
        FULL.refused("left(20, 1)", -1, b -> b.left(20, 1));
        FULL.taken("left(1, 99) of another", 99, b -> b.left(1, 99));
        Refusals one = new Refusals(DUE, "(one left)", () -> kindsLeft(1));
        one.taken("left(0, 98)", 99, b -> b.left(0, 98));
        one.refused("left(0, 99)", -2, b -> b.left(0, 99));
        KitchenBell b = kinds();
        for (int n = 1; n <= 99; n++) {
            DUE.is("left(4, 1)", b.left(4, 1), n);
        }
        DUE.is("left(4, 1)", b.left(4, 1), -2);
        DUE.is("count(6)", b.count(6), 99);
    }

    // eats: "(dish = -1: of all). -1"
    private static void eatsOfWhat() {
        BUSY.range("eats(n, 0)", 0, Kitchens.BUSY_OFFICERS - 1, (b, n) -> b.eats(n, 0));
        BUSY.range("eats(n, -1)", 0, Kitchens.BUSY_OFFICERS - 1, (b, n) -> b.eats(n, -1));
        BUSY.range("eats(0, n)", -1, Kitchens.BUSY_DISHES - 1, (b, n) -> b.eats(0, n));
        FULL.range("eats(n, -1)", 0, 7, (b, n) -> b.eats(n, -1));
        FULL.range("eats(7, n)", -1, 19, (b, n) -> b.eats(7, n));
        EMPTY.refused("eats(0, -1)", -1, b -> b.eats(0, -1));
        EMPTY.refused("eats(-1, -1)", -1, b -> b.eats(-1, -1));
        Refusals alone = new Refusals(DUE, "(an OFFICER, no DISHES)", () -> {
            KitchenBell b = new KitchenBell();
            b.officer(0, 50, 31);
            return b;
        });
        alone.taken("eats(0, -1)", 0, b -> b.eats(0, -1));
        alone.refused("eats(0, 0)", -1, b -> b.eats(0, 0));
        alone.taken("eat()", 0, KitchenBell::eat);
        alone.taken("last()", -2, KitchenBell::last);
    }

    // "so much is left (0 .. 99; 0 at first)"
    private static void eatsWithNothingLeft() {
        KitchenBell b = kinds();
        b.officer(0, 50, 31);
        for (int dish = -1; dish < 5; dish++) {
            DUE.is("eats(0, " + dish + ")", b.eats(0, dish), 0);
        }
    }

    private static void eatsWithoutAppetite() {
        KitchenBell b = kindsLeft(9);
        b.officer(0, 0, 31);
        b.officer(1, 1, 31);
        DUE.is("eats(0, -1), APPETITE 0", b.eats(0, -1), 0);
        DUE.is("eats(1, -1), APPETITE 1", b.eats(1, -1), 1);
        DUE.is("eats(1, 0), APPETITE 1", b.eats(1, 0), 1);
        DUE.is("last()", b.last(), 1);
        DUE.is("eat()", b.eat(), 44);
    }

    // "as much as is left there, till its APPETITE is met"
    private static void eatsToTheAppetite() {
        for (int left = 49; left <= 51; left++) {
            KitchenBell b = kinds();
            b.left(0, left);
            b.left(1, 5);
            b.officer(0, 50, 3);
            DUE.is("eats(0, 0) of " + left, b.eats(0, 0), Math.min(left, 50));
            DUE.is("eats(0, 1) behind " + left, b.eats(0, 1), left == 49 ? 1 : 0);
            DUE.is("eats(0, -1) of " + left, b.eats(0, -1), 50);
            DUE.is("eat() of " + left, b.eat(), left + 5 - 50);
        }
        KitchenBell less = kindsLeft(3);
        less.officer(0, 15, 31);
        DUE.is("eats(0, -1), just all", less.eats(0, -1), 15);
        less.left(4, 1);
        DUE.is("eats(0, 4), one more left", less.eats(0, 4), 3);
        DUE.is("eat(), one more left", less.eat(), 1);
    }

    private static void eatsWithoutRight() {
        KitchenBell b = kindsLeft(9);
        b.officer(0, 50, 0);
        DUE.is("eats(0, -1), RIGHTS 0", b.eats(0, -1), 0);
        DUE.is("last(), RIGHTS 0", b.last(), -2);
        DUE.is("eat(), RIGHTS 0", b.eat(), 45);
    }

    // "RIGHTS to KINDS (bits)": the very KIND
    private static void eatsByTheBitsOfRights() {
        for (int rights = 0; rights <= 31; rights++) {
            KitchenBell b = kindsLeft(9);
            b.officer(0, 50, rights);
            for (int kind = 0; kind < 5; kind++) {
                DUE.is("eats(0, " + kind + "), RIGHTS " + rights, b.eats(0, kind), (rights >> kind) % 2 * 9);
            }
            DUE.is("eats(0, -1), RIGHTS " + rights, b.eats(0, -1), 9 * Integer.bitCount(rights));
        }
    }

    // "each of the DISHES .., by numbers"
    private static void eatsByNumbersOfDishes() {
        KitchenBell b = new KitchenBell();
        for (int dish = 0; dish < 20; dish++) {
            b.dish(10 * (4 - dish % 5), 1, 11, 1);
        }
        for (int dish = 19; dish >= 0; dish--) {
            b.left(dish, 5);
        }
        b.officer(0, 49, 31);
        for (int dish = 0; dish < 20; dish++) {
            DUE.is("eats(0, " + dish + ") of twenty", b.eats(0, dish), dish < 9 ? 5 : dish == 9 ? 4 : 0);
        }
        b.officer(1, 50, 31);
        DUE.is("eats(1, 9), the rest", b.eats(1, 9), 1);
        DUE.is("eats(1, 19), the last DISH", b.eats(1, 19), 4);
        DUE.is("eat(), one is left", b.eat(), 1);
        DUE.is("left(19, 1)", b.left(19, 1), 2);
    }

    // "They EAT by RANK, the least first"
    private static void eatsByRank() {
        KitchenBell b = kinds();
        b.left(0, 99);
        b.officer(9, 50, 1);
        b.officer(0, 48, 1);
        b.officer(8, 50, 1);
        int[] has = {1, 48, 50};
        for (int officer = 0; officer < 3; officer++) {
            DUE.is("eats(" + officer + ", 0)", b.eats(officer, 0), has[officer]);
        }
        DUE.is("last()", b.last(), 0);
    }

    /** Eight OFFICERS of ranks in all sorts of order; each has 10 as long as there is something. */
    private static void eightEatByRank() {
        int[][] ranks = {{9, 8, 7, 6, 5, 4, 3, 2}, {0, 1, 2, 3, 4, 5, 6, 7}, {4, 9, 0, 4, 9, 0, 4, 0},
            {9, 9, 9, 9, 0, 0, 0, 0}, {5, 6, 4, 7, 3, 8, 2, 9}};
        int[][] turns = {{7, 6, 5, 4, 3, 2, 1, 0}, {0, 1, 2, 3, 4, 5, 6, 7}, {3, 6, 0, 4, 7, 1, 5, 2},
            {4, 5, 6, 7, 0, 1, 2, 3}, {3, 4, 2, 5, 1, 6, 0, 7}};
        for (int row = 0; row < ranks.length; row++) {
            KitchenBell b = kinds();
            b.left(0, 45);
            for (int rank : ranks[row]) {
                b.officer(rank, 10, 1);
            }
            for (int officer = 0; officer < 8; officer++) {
                int turn = turns[row][officer];
                DUE.is("eats(" + officer + ", 0), row " + row, b.eats(officer, 0), turn < 4 ? 10 : turn == 4 ? 5 : 0);
                if (turn == 4) {
                    DUE.is("last(), row " + row, b.last(), officer);
                }
            }
        }
    }

    // "of like ones by numbers"
    private static void eatsByNumbersOfLikeRank() {
        KitchenBell b = kinds();
        b.left(2, 99);
        for (int officer = 0; officer < 8; officer++) {
            b.officer(4, 15, 4);
        }
        for (int officer = 0; officer < 8; officer++) {
            DUE.is("eats(" + officer + ", 2)", b.eats(officer, 2), officer < 6 ? 15 : officer == 6 ? 9 : 0);
        }
        DUE.is("last()", b.last(), 6);
        DUE.is("eat()", b.eat(), 0);
    }

    // "of a mind only; nothing goes"
    private static void eatsOfAMindOnly() {
        KitchenBell b = kindsLeft(9);
        b.officer(0, 50, 31);
        for (int n = 0; n < 3; n++) {
            DUE.is("eats(0, -1)", b.eats(0, -1), 45);
            DUE.is("last()", b.last(), 0);
            DUE.is("count(6)", b.count(6), 45);
        }
        DUE.is("eat()", b.eat(), 0);
        DUE.is("eats(0, -1), all gone", b.eats(0, -1), 0);
    }

    // eat: "how much is left in all"
    private static void eatOfNothing() {
        EMPTY.taken("eat()", 0, KitchenBell::eat);
        EMPTY.taken("last()", -2, KitchenBell::last);
        KitchenBell b = kindsLeft(99);
        DUE.is("eat(), no OFFICERS", b.eat(), 495);
        DUE.is("last(), no OFFICERS", b.last(), -2);
        DUE.is("count(6), no OFFICERS", b.count(6), 495);
    }

    private static void eatAll() {
        KitchenBell b = kindsLeft(80);
        for (int officer = 0; officer < 8; officer++) {
            b.officer(officer, 50, 31);
        }
        DUE.is("last(), all eat to the last", b.last(), 7);
        DUE.is("eat(), all eat to the last", b.eat(), 0);
        DUE.is("last(), nothing left", b.last(), -2);
        b.left(4, 1);
        DUE.is("last(), one left", b.last(), 0);
    }

    private static void eatAndLeaveAgain() {
        KitchenBell b = kindsLeft(99);
        b.officer(0, 50, 1);
        DUE.is("left(0, 1)", b.left(0, 1), -2);
        DUE.is("eat()", b.eat(), 445);
        DUE.is("left(0, 51)", b.left(0, 51), -2);
        DUE.is("left(0, 50)", b.left(0, 50), 99);
        DUE.is("left(1, 1)", b.left(1, 1), -2);
    }

    // "-2: none has"
    private static void lastOfNone() {
        Refusals none = new Refusals(DUE, "(nobody has anything)", () -> {
            KitchenBell b = kinds();
            b.left(0, 9);
            b.officer(0, 50, 30);
            b.officer(1, 0, 31);
            return b;
        });
        none.taken("last()", -2, KitchenBell::last);
        none.taken("eat()", 9, KitchenBell::eat);
    }

    private static void lastOfThoseThatHaveSomething() {
        KitchenBell b = kinds();
        b.left(0, 10);
        b.officer(7, 5, 1);
        b.officer(3, 5, 1);
        b.officer(9, 5, 1);
        DUE.is("last(), none is left for the third", b.last(), 0);
        b.left(0, 1);
        DUE.is("last(), one is left for the third", b.last(), 2);
        b.officer(9, 1, 1);
        DUE.is("last(), none is left for the fourth", b.last(), 2);
        b.left(0, 5);
        DUE.is("last(), one is left for the fourth", b.last(), 3);
    }

    // count: "-1 for others"
    private static void countOfWhat() {
        EMPTY.range("count(n)", 0, 7, KitchenBell::count);
        BUSY.range("count(n)", 0, 7, KitchenBell::count);
        FULL.range("count(n)", 0, 7, KitchenBell::count);
    }

    private static void countOfAsMuchAsThereMayBe() {
        int[] want = {20, 9, 8, 0, 7, 1, 198, 20};
        for (int w = 0; w < 8; w++) {
            int what = w;
            FULL.taken("count(" + w + ")", want[w], b -> b.count(what));
        }
        KitchenBell b = Kitchens.full();
        for (int dish = 0; dish < 20; dish++) {
            b.left(dish, 99);
            b.needs(dish, 7, 1);
        }
        DUE.is("count(6), the most", b.count(6), 1980);
        DUE.is("count(7), none CAN be", b.count(7), 0);
        b.store(7, 1);
        DUE.is("count(7), all CAN be", b.count(7), 20);
        DUE.is("eat()", b.eat(), 1980 - 400);
    }
}
