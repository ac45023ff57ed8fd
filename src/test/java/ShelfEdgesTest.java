/** The edges of promises 30 to 35, sentence by sentence of the document. */
public final class ShelfEdgesTest {
    private static final int MIN = Integer.MIN_VALUE;
    private static final int MAX = Integer.MAX_VALUE;
    private static final Due DUE = new Due();
    private static final Refusals EMPTY = new Refusals(DUE, "(nothing there)", KitchenBell::new);
    private static final Refusals BUSY = new Refusals(DUE, "(busy)", Kitchens::busy);
    private static final Refusals FULL = new Refusals(DUE, "(all full)", Kitchens::full);
    private static final Refusals HELD = new Refusals(DUE, "(each sort on a SHELF)", ShelfEdgesTest::held);

    public static void main(String[] args) {
        nothingIsHeldAtFirst();
        keepOnWhat();
        keepWhat();
        keepADish();
        keepNothing();
        keepTheTableOfNone();
        keepTheTable();
        keepTheTableAsItIsThen();
        keepNeeds();
        keepNeedsAsTheyAreThen();
        whatIsNotKeptLeavesTheShelf();
        makeOnWhat();
        makeHowMuch();
        makeOverWhatIsThere();
        elementOfNoShelf();
        elementOfNoRow();
        elementOfNoPlace();
        elementFromFirstToLast();
        copyOfNoShelf();
        copyOfNothing();
        copyOfAnotherKind();
        copyOfNoPlace();
        copyOfAsMuchAsThereIs();
        copyOfNone();
        copyAsTheyAllWereBefore();
        copyTakesNothingAlong();
        weightOfWhat();
        weightFromLeastToMost();
        tossOfWhat();
        tossOfEachDish();
        DUE.end();
    }

    /** A COLD DISH, ints, shorts, empty ROWS of either, a GILDED DISH; nothing on 6 and 7. */
    private static KitchenBell held() {
        KitchenBell b = Kitchens.busy();
        b.make(1, 3, 5);
        b.copy(1, 0, 1, 1, 3);
        b.keep(0, 1, 0);
        b.keep(2, 4, 5);
        b.make(3, 3, 0);
        b.make(4, 4, 0);
        b.keep(5, 1, 4);
        return b;
    }

    // "SHELVES 0 .. 7 each hold nothing (at first)"
    private static void nothingIsHeldAtFirst() {
        for (int s = 0; s < 8; s++) {
            int d = s;
            EMPTY.refused("weight(" + s + ")", -11, b -> b.weight(d));
            EMPTY.refused("toss(" + s + ")", -11, b -> b.toss(d));
            EMPTY.refused("copy(" + s + ", 0, " + s + ", 0, 0)", -11, b -> b.copy(d, 0, d, 0, 0));
            EMPTY.thrown(s, 0, Due.ILLEGAL_STATE);
        }
    }

    private static void keepOnWhat() {
        BUSY.range("keep(n, 0, 0)", 0, 7, (b, n) -> b.keep(n, 0, 0));
        BUSY.range("keep(n, 1, 0)", 0, 7, (b, n) -> b.keep(n, 1, 0));
        BUSY.range("keep(n, 3, 0)", 0, 7, (b, n) -> b.keep(n, 3, 0));
        BUSY.range("keep(n, 4, 0)", 0, 7, (b, n) -> b.keep(n, 4, 0));
    }

    // "what = 0 nothing; 1 DISH k; 3 a ROW of ints ..; 4 a ROW of shorts"
    private static void keepWhat() {
        BUSY.range("keep(0, n, 0)", 0, 4, (b, n) -> b.keep(0, n, 0));
        BUSY.refused("keep(0, 2, 0)", -1, b -> b.keep(0, 2, 0));
        EMPTY.taken("keep(0, 0, 0)", 0, b -> b.keep(0, 0, 0));
        EMPTY.taken("keep(0, 3, 0)", 0, b -> b.keep(0, 3, 0));
        EMPTY.refused("keep(0, 1, 0)", -1, b -> b.keep(0, 1, 0));
        EMPTY.refused("keep(0, 2, 0)", -1, b -> b.keep(0, 2, 0));
        EMPTY.refused("keep(0, 4, 0)", -1, b -> b.keep(0, 4, 0));
    }

    private static void keepADish() {
        BUSY.range("keep(0, 1, n)", 0, Kitchens.BUSY_DISHES - 1, (b, n) -> b.keep(0, 1, n));
        FULL.range("keep(7, 1, n)", 0, 19, (b, n) -> b.keep(7, 1, n));
        // k is told with what 1 and 4 alone
        for (int any : new int[] {MIN, -1, 0, 6, 7, 20, MAX}) {
            BUSY.taken("keep(0, 0, " + any + ")", 0, b -> b.keep(0, 0, any));
            BUSY.taken("keep(0, 3, " + any + ")", 0, b -> b.keep(0, 3, any));
        }
    }

    private static void keepNothing() {
        for (int s = 0; s < 8; s++) {
            int d = s;
            FULL.taken("weight(" + s + "), nothing kept", -11, b -> b.keep(d, 0, 0) == 0 ? b.weight(d) : -9);
            FULL.taken("keep(" + s + ", 0, 0) twice", 0, b -> b.keep(d, 0, 0) + b.keep(d, 0, 0));
        }
        FULL.taken("weight(5), of another", 11, b -> b.keep(4, 0, 0) == 0 ? b.weight(5) : -9);
    }

    // "(none: of length 0)"
    private static void keepTheTableOfNone() {
        Refusals none = new Refusals(DUE, "(no TABLE kept)", () -> {
            KitchenBell b = Kitchens.chosen(9);
            b.keep(0, 3, 0);
            return b;
        });
        none.thrown(0, 0, Due.ILLEGAL_STATE);
        none.taken("copy(0, 0, 0, 0, 0)", 0, b -> b.copy(0, 0, 0, 0, 0));
        none.refused("copy(0, 0, 0, 0, 1)", -13, b -> b.copy(0, 0, 0, 0, 1));
        none.refused("weight(0)", -12, b -> b.weight(0));
        none.refused("toss(0)", -12, b -> b.toss(0));
        Refusals empty = new Refusals(DUE, "(a TABLE of no PLACES kept)", () -> {
            KitchenBell b = Kitchens.laid(0);
            b.keep(0, 3, 0);
            return b;
        });
        empty.thrown(0, 0, Due.ILLEGAL_STATE);
        empty.taken("copy(0, 0, 0, 0, 0)", 0, b -> b.copy(0, 0, 0, 0, 0));
    }

    // "THE TABLE, PLACE by PLACE"
    private static void keepTheTable() {
        for (int n = 1; n <= 9; n++) {
            KitchenBell b = Kitchens.laid(n);
            b.swap(0, n - 1);
            b.keep(7, 3, 0);
            for (int i = 0; i < n; i++) {
                DUE.element(b, 7, i, b.place(i));
            }
            DUE.elementThrows(b, 7, n, Due.ILLEGAL_STATE);
        }
    }

    private static void keepTheTableAsItIsThen() {
        KitchenBell b = Kitchens.laid(3);
        b.keep(0, 3, 0);
        b.swap(0, 2);
        DUE.element(b, 0, 0, 0);
        b.keep(1, 3, 0);
        DUE.element(b, 1, 0, 2);
        b.leave(0);
        DUE.element(b, 1, 0, 2);
        b.make(2, 3, 3);
        DUE.is("copy of 0s over what was kept", b.copy(2, 0, 0, 0, 3), 3);
        DUE.element(b, 1, 0, 2);
        b.choose(0);
        b.lay();
        DUE.table("lay()", b, 0, 1, 2);
        b.keep(3, 3, 0);
        DUE.is("copy of 0s over a kept TABLE", b.copy(2, 0, 3, 0, 3), 3);
        DUE.table("copy() over what was kept of it", b, 0, 1, 2);
    }

    // "4 a ROW of shorts: what DISH k NEEDS"
    private static void keepNeeds() {
        BUSY.range("keep(0, 4, n)", 0, Kitchens.BUSY_DISHES - 1, (b, n) -> b.keep(0, 4, n));
        FULL.range("keep(7, 4, n)", 0, 19, (b, n) -> b.keep(7, 4, n));
        KitchenBell b = Kitchens.chosen(0);
        for (int good = 0; good < 8; good++) {
            b.needs(9, good, 9 - good);
        }
        b.keep(0, 4, 9);
        b.keep(1, 4, 0);
        for (int good = 0; good < 8; good++) {
            DUE.element(b, 0, good, 9 - good);
            DUE.element(b, 1, good, 0);
        }
        DUE.elementThrows(b, 0, 8, Due.ILLEGAL_STATE);
        DUE.elementThrows(b, 1, 8, Due.ILLEGAL_STATE);
        b.make(2, 3, 8);
        DUE.is("copy to ints", b.copy(0, 0, 2, 0, 8), -12);
        b.make(2, 4, 8);
        DUE.is("copy to shorts", b.copy(0, 0, 2, 0, 8), 8);
    }

    private static void keepNeedsAsTheyAreThen() {
        KitchenBell b = Kitchens.chosen(0);
        b.needs(0, 7, 9);
        b.keep(0, 4, 0);
        b.needs(0, 7, 1);
        DUE.element(b, 0, 7, 9);
        b.make(1, 4, 1);
        DUE.is("copy of 0 over it", b.copy(1, 0, 0, 7, 1), 1);
        DUE.is("good(0, 7)", b.good(0, 7), 1);
    }

    // "A refused call changes nothing"
    private static void whatIsNotKeptLeavesTheShelf() {
        for (int s = 0; s < 8; s++) {
            int d = s;
            HELD.refused("keep(" + s + ", 1, 7)", -1, b -> b.keep(d, 1, 7));
            HELD.refused("keep(" + s + ", 1, -1)", -1, b -> b.keep(d, 1, -1));
            HELD.refused("keep(" + s + ", 4, 7)", -1, b -> b.keep(d, 4, 7));
            HELD.refused("keep(" + s + ", 4, -1)", -1, b -> b.keep(d, 4, -1));
            HELD.refused("keep(" + s + ", 2, 0)", -1, b -> b.keep(d, 2, 0));
            HELD.refused("make(" + s + ", 3, -1)", -14, b -> b.make(d, 3, -1));
            HELD.refused("make(" + s + ", 4, 61)", -1, b -> b.make(d, 4, 61));
        }
    }

    private static void makeOnWhat() {
        BUSY.range("make(n, 3, 1)", 0, 7, (b, n) -> b.make(n, 3, 1));
        BUSY.range("make(n, 4, 1)", 0, 7, (b, n) -> b.make(n, 4, 1));
        BUSY.range("make(0, n, 1)", 3, 4, (b, n) -> b.make(0, n, 1));
        BUSY.refused("make(0, 0, 0)", -1, b -> b.make(0, 0, 0));
        BUSY.refused("make(0, 1, 0)", -1, b -> b.make(0, 1, 0));
    }

    // "n up to 60", "-14: n is below 0", behind -1
    private static void makeHowMuch() {
        for (int w = 3; w <= 4; w++) {
            int what = w;
            for (int n : new int[] {0, 1, 59, 60}) {
                KitchenBell b = Kitchens.busy();
                DUE.is("make(0, " + w + ", " + n + ")", b.make(0, what, n), 0);
                for (int i = 0; i < n; i++) {
                    DUE.element(b, 0, i, 0);
                }
                DUE.elementThrows(b, 0, n, Due.ILLEGAL_STATE);
                DUE.elementThrows(b, 0, -1, Due.ILLEGAL_STATE);
            }
            for (int n : new int[] {61, 100, MAX}) {
                BUSY.refused("make(0, " + w + ", " + n + ")", -1, b -> b.make(0, what, n));
            }
            for (int n : new int[] {-1, -60, MIN}) {
                BUSY.refused("make(0, " + w + ", " + n + ")", -14, b -> b.make(0, what, n));
                BUSY.refused("make(8, " + w + ", " + n + ")", -1, b -> b.make(8, what, n));
                BUSY.refused("make(-1, " + w + ", " + n + ")", -1, b -> b.make(-1, what, n));
            }
        }
        BUSY.refused("make(0, 2, -1)", -1, b -> b.make(0, 2, -1));
        BUSY.refused("make(0, 5, -1)", -1, b -> b.make(0, 5, -1));
        BUSY.refused("make(8, 5, 61)", -1, b -> b.make(8, 5, 61));
    }

    private static void makeOverWhatIsThere() {
        for (int d = 0; d < 8; d++) {
            KitchenBell b = held();
            DUE.is("make(" + d + ", 4, 2)", b.make(d, 4, 2), 0);
            DUE.element(b, d, 1, 0);
            DUE.elementThrows(b, d, 2, Due.ILLEGAL_STATE);
            DUE.is("weight(" + d + ")", b.weight(d), -12);
        }
    }

    // "IllegalArgumentException: no such SHELF", ahead of the other
    private static void elementOfNoShelf() {
        for (Refusals any : new Refusals[] {EMPTY, HELD, FULL}) {
            for (int d : new int[] {MIN, -1, 8, MAX}) {
                any.thrown(d, 0, Due.ILLEGAL_ARGUMENT);
                any.thrown(d, -1, Due.ILLEGAL_ARGUMENT);
                any.thrown(d, MAX, Due.ILLEGAL_ARGUMENT);
            }
        }
    }

    // "IllegalStateException: nothing is held, it is no ROW"
    private static void elementOfNoRow() {
        for (int d : new int[] {0, 5, 6, 7}) {
            HELD.thrown(d, 0, Due.ILLEGAL_STATE);
            HELD.thrown(d, -1, Due.ILLEGAL_STATE);
            HELD.thrown(d, MAX, Due.ILLEGAL_STATE);
        }
        EMPTY.thrown(0, 0, Due.ILLEGAL_STATE);
        EMPTY.thrown(7, 0, Due.ILLEGAL_STATE);
    }

    // "or has no such place"
    private static void elementOfNoPlace() {
        int[] lengths = {0, 5, 8, 0, 0};
        for (int d = 1; d < 5; d++) {
            HELD.thrown(d, lengths[d], Due.ILLEGAL_STATE);
            HELD.thrown(d, -1, Due.ILLEGAL_STATE);
            HELD.thrown(d, MIN, Due.ILLEGAL_STATE);
            HELD.thrown(d, MAX, Due.ILLEGAL_STATE);
        }
        FULL.thrown(1, 9, Due.ILLEGAL_STATE);
        FULL.thrown(2, 8, Due.ILLEGAL_STATE);
        FULL.thrown(3, 60, Due.ILLEGAL_STATE);
    }

    // "Element i, from 0"
    private static void elementFromFirstToLast() {
        KitchenBell full = Kitchens.full();
        for (int i = 0; i < 60; i++) {
            DUE.element(full, 3, i, 0);
        }
        for (int i = 0; i < 9; i++) {
            DUE.element(full, 1, i, i);
        }
        KitchenBell twenty = Kitchens.full();
        for (int dish = 0; dish < 9; dish++) {
            twenty.leave(dish);
        }
        twenty.choose(19);
        twenty.lay();
        twenty.keep(0, 3, 0);
        DUE.element(twenty, 0, 0, 19);
    }

    // copy: "-1", ahead of -11, -12, -13
    private static void copyOfNoShelf() {
        for (int d : new int[] {MIN, -1, 8, MAX}) {
            HELD.refused("copy(" + d + ", 0, 1, 0, 1)", -1, b -> b.copy(d, 0, 1, 0, 1));
            HELD.refused("copy(1, 0, " + d + ", 0, 1)", -1, b -> b.copy(1, 0, d, 0, 1));
            HELD.refused("copy(" + d + ", 0, 7, 0, 1)", -1, b -> b.copy(d, 0, 7, 0, 1));
            HELD.refused("copy(7, 0, " + d + ", 0, 1)", -1, b -> b.copy(7, 0, d, 0, 1));
            HELD.refused("copy(0, 0, " + d + ", 0, -1)", -1, b -> b.copy(0, 0, d, 0, -1));
            HELD.refused("copy(" + d + ", -1, " + d + ", -1, -1)", -1, b -> b.copy(d, -1, d, -1, -1));
        }
        HELD.range("copy(n, 0, 1, 0, 0)", 0, 7, (b, n) -> b.copy(n, 0, 1, 0, 0));
        HELD.range("copy(1, 0, n, 0, 0)", 0, 7, (b, n) -> b.copy(1, 0, n, 0, 0));
    }

    // "-11: of either", ahead of -12 and -13
    private static void copyOfNothing() {
        for (int s = 0; s < 8; s++) {
            int d = s;
            HELD.refused("copy(6, 0, " + s + ", 0, 0)", -11, b -> b.copy(6, 0, d, 0, 0));
            HELD.refused("copy(" + s + ", 0, 7, 0, 0)", -11, b -> b.copy(d, 0, 7, 0, 0));
            HELD.refused("copy(" + s + ", -1, 7, 99, -1)", -11, b -> b.copy(d, -1, 7, 99, -1));
        }
    }

    // "-12: one is no ROW, or they are not of one kind", ahead of -13
    private static void copyOfAnotherKind() {
        int[][] pairs = {{0, 1}, {1, 0}, {0, 2}, {2, 0}, {0, 0}, {0, 5}, {5, 5}, {1, 2}, {2, 1}, {1, 4}, {4, 1},
            {3, 4}, {4, 3}, {3, 2}, {2, 3}, {5, 3}, {4, 5}};
        for (int[] p : pairs) {
            String told = "copy(" + p[0] + ", .., " + p[1] + ", .., ";
            HELD.refused(told + "0)", -12, b -> b.copy(p[0], 0, p[1], 0, 0));
            HELD.refused(told + "1)", -12, b -> b.copy(p[0], 0, p[1], 0, 1));
            HELD.refused(told + "-1)", -12, b -> b.copy(p[0], 0, p[1], 0, -1));
            HELD.refused(told + "99)", -12, b -> b.copy(p[0], -1, p[1], MAX, 99));
        }
    }

    // "-13: n, i or j is below 0, or beyond either's end"
    private static void copyOfNoPlace() {
        // ints: 1 of length 5, 3 of 0; shorts: 2 of length 8
        int[][] wrong = {{1, 0, 1, 0, -1}, {1, -1, 1, 0, 1}, {1, 0, 1, -1, 1}, {1, -1, 1, -1, 0}, {1, -1, 1, 0, 0},
            {1, 0, 1, -1, 0}, {1, 0, 1, 0, 6}, {1, 1, 1, 0, 5}, {1, 0, 1, 1, 5}, {1, 4, 1, 0, 2}, {1, 0, 1, 4, 2},
            {1, 5, 1, 0, 1}, {1, 0, 1, 5, 1}, {1, 6, 1, 0, 0}, {1, 0, 1, 6, 0}, {1, 0, 3, 0, 1}, {3, 0, 1, 0, 1},
            {3, 1, 1, 0, 0}, {1, 0, 3, 1, 0}, {3, 0, 3, 0, 1}, {2, 0, 2, 0, 9}, {2, 8, 2, 0, 1}, {2, 0, 2, 8, 1},
            {2, 9, 2, 0, 0}, {4, 0, 2, 0, 1}, {2, 0, 4, 0, 1}, {2, 0, 2, 0, MAX}, {2, 1, 2, 1, MAX},
            {2, MAX, 2, 0, 1}, {2, 0, 2, MAX, 1}, {2, MAX, 2, MAX, MAX}, {2, MAX, 2, MAX, 0}, {2, 0, 2, 0, MIN},
            {2, MIN, 2, 0, 1}, {2, 0, 2, MIN, 1}, {2, MIN, 2, MIN, MIN}, {2, MIN, 2, 0, MAX}, {2, MAX, 2, 0, MIN}};
        for (int[] w : wrong) {
            HELD.refused("copy(" + w[0] + ", " + w[1] + ", " + w[2] + ", " + w[3] + ", " + w[4] + ")", -13,
                    b -> b.copy(w[0], w[1], w[2], w[3], w[4]));
        }
    }

    private static void copyOfAsMuchAsThereIs() {
        HELD.taken("copy(1, 0, 1, 0, 5)", 5, b -> b.copy(1, 0, 1, 0, 5));
        HELD.taken("copy(2, 0, 2, 0, 8)", 8, b -> b.copy(2, 0, 2, 0, 8));
        HELD.taken("copy(1, 4, 1, 0, 1)", 1, b -> b.copy(1, 4, 1, 0, 1));
        HELD.taken("copy(1, 0, 1, 4, 1)", 1, b -> b.copy(1, 0, 1, 4, 1));
        HELD.taken("copy(1, 3, 1, 0, 2)", 2, b -> b.copy(1, 3, 1, 0, 2));
        FULL.taken("copy(3, 0, 3, 0, 60)", 60, b -> b.copy(3, 0, 3, 0, 60));
        FULL.taken("copy(1, 0, 3, 51, 9)", 9, b -> b.copy(1, 0, 3, 51, 9));
        FULL.refused("copy(1, 0, 3, 52, 9)", -13, b -> b.copy(1, 0, 3, 52, 9));
        FULL.refused("copy(3, 0, 1, 0, 10)", -13, b -> b.copy(3, 0, 1, 0, 10));
        KitchenBell b = Kitchens.full();
        b.copy(1, 0, 3, 51, 9);
        for (int i = 0; i < 60; i++) {
            DUE.element(b, 3, i, i < 51 ? 0 : i - 51);
        }
    }

    private static void copyOfNone() {
        HELD.taken("copy(1, 5, 1, 5, 0)", 0, b -> b.copy(1, 5, 1, 5, 0));
        HELD.taken("copy(1, 5, 3, 0, 0)", 0, b -> b.copy(1, 5, 3, 0, 0));
        HELD.taken("copy(3, 0, 1, 5, 0)", 0, b -> b.copy(3, 0, 1, 5, 0));
        HELD.taken("copy(3, 0, 3, 0, 0)", 0, b -> b.copy(3, 0, 3, 0, 0));
        HELD.taken("copy(4, 0, 2, 8, 0)", 0, b -> b.copy(4, 0, 2, 8, 0));
        FULL.taken("copy(3, 60, 3, 60, 0)", 0, b -> b.copy(3, 60, 3, 60, 0));
        FULL.refused("copy(3, 61, 3, 60, 0)", -13, b -> b.copy(3, 61, 3, 60, 0));
        FULL.refused("copy(3, 60, 3, 61, 0)", -13, b -> b.copy(3, 60, 3, 61, 0));
    }

    // "(as they all were before)"
    private static void copyAsTheyAllWereBefore() {
        for (int i = 0; i <= 8; i++) {
            for (int j = 0; j <= 8; j++) {
                for (int n = 0; n <= 8 - Math.max(i, j); n++) {
                    KitchenBell b = new KitchenBell();
                    b.dish(0, 1, 0, 0);
                    for (int good = 0; good < 8; good++) {
                        b.needs(0, good, good + 1);
                    }
                    b.keep(0, 4, 0);
                    DUE.is("copy(0, " + i + ", 0, " + j + ", " + n + ")", b.copy(0, i, 0, j, n), n);
                    for (int at = 0; at < 8; at++) {
                        DUE.element(b, 0, at, at >= j && at < j + n ? at - j + i + 1 : at + 1);
                    }
                }
            }
        }
    }

    private static void copyTakesNothingAlong() {
        KitchenBell b = Kitchens.laid(3);
        b.keep(0, 3, 0);
        b.keep(1, 3, 0);
        b.make(2, 3, 3);
        b.copy(0, 0, 2, 0, 3);
        b.make(0, 3, 1);
        DUE.element(b, 2, 2, 2);
        b.copy(0, 0, 1, 2, 1);
        DUE.element(b, 1, 2, 0);
        DUE.element(b, 2, 2, 2);
    }

    // weight: "-1, -11, -12"
    private static void weightOfWhat() {
        HELD.range("weight(n)", 0, 7, KitchenBell::weight);
        int[] want = {11, -12, -12, -12, -12, 2 * (11 + 4 * 3 + 100), -11, -11};
        for (int s = 0; s < 8; s++) {
            int d = s;
            HELD.taken("weight(" + s + ")", want[s], b -> b.weight(d));
            if (want[s] < 0) {
                HELD.refused("weight(" + s + ")", want[s], b -> b.weight(d));
            }
        }
    }

    // "10 and its SIZE; .. TIME TAKEN times HANDS TAKEN more; .. 100 more; .. HEAT more; .. twice all that"
    private static void weightFromLeastToMost() {
        int[] least = {11, 12, 112, 13, 230};
        int[] most = {13, 49, 149, 58, 330};
        for (int kind = 0; kind < 5; kind++) {
            KitchenBell b = new KitchenBell();
            b.dish(10 * kind, 1, 11, 1);
            b.dish(10 * kind + 4, 3, 123, 9);
            b.keep(0, 1, 0);
            b.keep(7, 1, 1);
            DUE.is("weight of the least of KIND " + kind, b.weight(0), least[kind]);
            DUE.is("weight of the most of KIND " + kind, b.weight(7), most[kind]);
        }
    }

    // toss: "-1, -11, -12; -15: COLD ones have none"
    private static void tossOfWhat() {
        HELD.range("toss(n)", 0, 7, KitchenBell::toss);
        int[] want = {-15, -12, -12, -12, -12, 4, -11, -11};
        for (int s = 0; s < 8; s++) {
            int d = s;
            HELD.taken("toss(" + s + ")", want[s], b -> b.toss(d));
            if (want[s] < 0) {
                HELD.refused("toss(" + s + ")", want[s], b -> b.toss(d));
            }
        }
    }

    // "The FAILURE of the DISH on SHELF d is thrown, and caught: its number", the DISH's
    private static void tossOfEachDish() {
        for (int dish = 0; dish < 20; dish++) {
            KitchenBell b = Kitchens.full();
            b.keep(7, 1, dish);
            DUE.is("toss of DISH " + dish, b.toss(7), dish % 5 == 0 ? -15 : dish);
            DUE.is("toss of DISH " + dish + " again", b.toss(7), dish % 5 == 0 ? -15 : dish);
            DUE.is("count(0) after toss", b.count(0), 20);
        }
    }
}
