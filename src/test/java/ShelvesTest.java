/** Promises 30 to 35: the shelves. */
public final class ShelvesTest {
    private static final Due DUE = new Due();

    public static void main(String[] args) {
        keeping();
        keepingTheTable();
        keepingNeeds();
        making();
        elements();
        copying();
        copyingRefused();
        weights();
        failures();
        failuresByDish();
        DUE.end();
    }

    private static KitchenBell kinds() {
        KitchenBell b = new KitchenBell();
        for (int kind = 0; kind < 5; kind++) {
            b.dish(10 * kind, 3, 52, 8);
        }
        return b;
    }

    // Promise 30
    private static void keeping() {
        KitchenBell b = kinds();
        DUE.is("keep(0, 1, 0)", b.keep(0, 1, 0), 0);
        DUE.is("weight(0)", b.weight(0), 13);
        DUE.is("keep(7, 1, 4)", b.keep(7, 1, 4), 0);
        DUE.is("keep(8, 1, 0)", b.keep(8, 1, 0), -1);
        DUE.is("keep(-1, 1, 0)", b.keep(-1, 1, 0), -1);
        DUE.is("keep(0, 1, 5)", b.keep(0, 1, 5), -1);
        DUE.is("keep(0, 1, -1)", b.keep(0, 1, -1), -1);
        DUE.is("keep(0, 4, 5)", b.keep(0, 4, 5), -1);
        DUE.is("keep(0, 4, -1)", b.keep(0, 4, -1), -1);
        DUE.is("keep(0, 2, 0)", b.keep(0, 2, 0), -1);
        DUE.is("keep(0, 5, 0)", b.keep(0, 5, 0), -1);
        DUE.is("keep(0, -1, 0)", b.keep(0, -1, 0), -1);
        DUE.is("keep(8, 0, 0)", b.keep(8, 0, 0), -1);
        DUE.is("keep(8, 3, 0)", b.keep(8, 3, 0), -1);
        DUE.is("weight(0), still there", b.weight(0), 13);
        DUE.is("keep(0, 0, 0)", b.keep(0, 0, 0), 0);
        DUE.is("weight(0), nothing", b.weight(0), -11);
        DUE.is("keep(1, 0, 99), any k", b.keep(1, 0, 99), 0);
        DUE.is("keep(1, 3, -99), any k", b.keep(1, 3, -99), 0);
        DUE.is("weight(1), a ROW", b.weight(1), -12);
        DUE.is("keep(1, 1, 1)", b.keep(1, 1, 1), 0);
        DUE.is("weight(1), a DISH", b.weight(1), 23);
    }

    private static void keepingTheTable() {
        KitchenBell b = kinds();
        b.keep(0, 3, 0);
        DUE.elementThrows(b, 0, 0, Due.ILLEGAL_STATE);
        DUE.is("copy of none, no table", b.copy(0, 0, 0, 0, 0), 0);
        b.choose(3);
        b.choose(1);
        b.choose(4);
        b.keep(0, 3, 0);
        DUE.elementThrows(b, 0, 0, Due.ILLEGAL_STATE);
        b.lay();
        b.keep(0, 3, 0);
        b.swap(0, 2);
        b.keep(1, 3, 0);
        b.leave(3);
        int[] first = {1, 3, 4};
        int[] then = {4, 3, 1};
        for (int i = 0; i < 3; i++) {
            DUE.element(b, 0, i, first[i]);
            DUE.element(b, 1, i, then[i]);
        }
        DUE.elementThrows(b, 0, 3, Due.ILLEGAL_STATE);
        DUE.is("copy among ROWS of ints", b.copy(0, 0, 1, 0, 3), 3);
    }

    private static void keepingNeeds() {
        KitchenBell b = kinds();
        b.needs(2, 0, 9);
        b.needs(2, 7, 4);
        b.keep(3, 4, 2);
        b.needs(2, 0, 1);
        int[] want = {9, 0, 0, 0, 0, 0, 0, 4};
        for (int i = 0; i < 8; i++) {
            DUE.element(b, 3, i, want[i]);
        }
        DUE.elementThrows(b, 3, 8, Due.ILLEGAL_STATE);
        b.make(4, 4, 1);
        DUE.is("copy into what was kept", b.copy(4, 0, 3, 0, 1), 1);
        DUE.is("good(2, 7) stays", b.good(2, 7), 4);
        b.make(4, 3, 8);
        DUE.is("copy to ints", b.copy(3, 0, 4, 0, 1), -12);
    }

    // Promise 31
    private static void making() {
        KitchenBell b = new KitchenBell();
        DUE.is("make(0, 3, 60)", b.make(0, 3, 60), 0);
        DUE.element(b, 0, 59, 0);
        DUE.elementThrows(b, 0, 60, Due.ILLEGAL_STATE);
        DUE.is("make(0, 3, 61)", b.make(0, 3, 61), -1);
        DUE.is("make(0, 3, max)", b.make(0, 3, Integer.MAX_VALUE), -1);
        DUE.is("make(0, 4, -1)", b.make(0, 4, -1), -14);
        DUE.is("make(0, 4, min)", b.make(0, 4, Integer.MIN_VALUE), -14);
        DUE.is("make(8, 4, -1)", b.make(8, 4, -1), -1);
        DUE.is("make(-1, 4, 1)", b.make(-1, 4, 1), -1);
        DUE.is("make(0, 2, 1)", b.make(0, 2, 1), -1);
        DUE.is("make(0, 5, -1)", b.make(0, 5, -1), -1);
        DUE.is("make(0, 0, 1)", b.make(0, 0, 1), -1);
        DUE.is("make(0, 1, 1)", b.make(0, 1, 1), -1);
        DUE.element(b, 0, 59, 0);
        DUE.is("make(7, 4, 0)", b.make(7, 4, 0), 0);
        DUE.elementThrows(b, 7, 0, Due.ILLEGAL_STATE);
        DUE.is("copy of ints to shorts", b.copy(0, 0, 7, 0, 0), -12);
    }

    // Promise 32
    private static void elements() {
        KitchenBell b = kinds();
        DUE.elementThrows(b, -1, 0, Due.ILLEGAL_ARGUMENT);
        DUE.elementThrows(b, 8, 0, Due.ILLEGAL_ARGUMENT);
        DUE.elementThrows(b, Integer.MIN_VALUE, -1, Due.ILLEGAL_ARGUMENT);
        DUE.elementThrows(b, 0, 0, Due.ILLEGAL_STATE);
        b.keep(0, 1, 1);
        DUE.elementThrows(b, 0, 0, Due.ILLEGAL_STATE);
        b.make(0, 3, 2);
        DUE.element(b, 0, 0, 0);
        DUE.element(b, 0, 1, 0);
        DUE.elementThrows(b, 0, 2, Due.ILLEGAL_STATE);
        DUE.elementThrows(b, 0, -1, Due.ILLEGAL_STATE);
        DUE.elementThrows(b, 0, Integer.MAX_VALUE, Due.ILLEGAL_STATE);
        b.keep(0, 0, 0);
        DUE.elementThrows(b, 0, 0, Due.ILLEGAL_STATE);
    }

    // Promise 33
    private static void copying() {
        KitchenBell b = kinds();
        for (int good = 0; good < 8; good++) {
            b.needs(0, good, good + 1);
        }
        b.keep(0, 4, 0);
        DUE.is("copy up within one ROW", b.copy(0, 0, 0, 2, 5), 5);
        row(b, 0, 1, 2, 1, 2, 3, 4, 5, 8);
        DUE.is("copy down within one ROW", b.copy(0, 3, 0, 1, 5), 5);
        row(b, 0, 1, 2, 3, 4, 5, 8, 5, 8);
        b.make(1, 4, 3);
        DUE.is("copy to another", b.copy(0, 4, 1, 1, 2), 2);
        row(b, 1, 0, 5, 8);
        DUE.is("copy of none at the ends", b.copy(0, 8, 1, 3, 0), 0);
        DUE.is("copy of all", b.copy(1, 0, 0, 5, 3), 3);
        row(b, 0, 1, 2, 3, 4, 5, 0, 5, 8);
        DUE.is("copy of one to itself", b.copy(1, 0, 1, 0, 3), 3);
        row(b, 1, 0, 5, 8);
    }

    private static void row(KitchenBell b, int d, int... want) {
        for (int i = 0; i < want.length; i++) {
            DUE.element(b, d, i, want[i]);
        }
        DUE.elementThrows(b, d, want.length, Due.ILLEGAL_STATE);
    }

    private static void copyingRefused() {
        KitchenBell b = kinds();
        b.make(0, 3, 4);
        b.make(1, 4, 4);
        b.make(2, 3, 2);
        b.keep(3, 1, 0);
        DUE.is("copy from no shelf", b.copy(8, 0, 0, 0, 1), -1);
        DUE.is("copy to no shelf", b.copy(0, 0, -1, 0, 1), -1);
        DUE.is("copy from nothing to no shelf", b.copy(7, 0, 8, 0, 1), -1);
        DUE.is("copy from nothing", b.copy(7, 0, 0, 0, 1), -11);
        DUE.is("copy to nothing", b.copy(0, 0, 7, 0, 1), -11);
        DUE.is("copy from a DISH to nothing", b.copy(3, 0, 7, 0, -1), -11);
        DUE.is("copy from a DISH", b.copy(3, 0, 0, 0, -1), -12);
        DUE.is("copy to a DISH", b.copy(0, 0, 3, 0, 1), -12);
        DUE.is("copy among DISHES", b.copy(3, 0, 3, 0, 1), -12);
        DUE.is("copy from ints to shorts", b.copy(0, 0, 1, 0, 1), -12);
        DUE.is("copy from shorts to ints", b.copy(1, 0, 0, 0, 99), -12);
        DUE.is("copy of -1", b.copy(0, 0, 2, 0, -1), -13);
        DUE.is("copy from -1", b.copy(0, -1, 2, 0, 1), -13);
        DUE.is("copy to -1", b.copy(0, 0, 2, -1, 1), -13);
        DUE.is("copy beyond the one's end", b.copy(2, 1, 0, 0, 2), -13);
        DUE.is("copy beyond the other's end", b.copy(0, 0, 2, 1, 2), -13);
        DUE.is("copy of none beyond the one's end", b.copy(2, 3, 0, 0, 0), -13);
        DUE.is("copy of none beyond the other's end", b.copy(0, 0, 2, 3, 0), -13);
        int max = Integer.MAX_VALUE;
        int min = Integer.MIN_VALUE;
        DUE.is("copy of max", b.copy(0, 1, 2, 1, max), -13);
        DUE.is("copy from max", b.copy(0, max, 2, 0, 1), -13);
        DUE.is("copy to max", b.copy(0, 0, 2, max, 1), -13);
        DUE.is("copy of max from max", b.copy(0, max, 2, max, max), -13);
        DUE.is("copy of min", b.copy(0, min, 2, min, min), -13);
        DUE.is("copy of min from 0", b.copy(0, 0, 2, 0, min), -13);
    }

    // Promise 34
    private static void weights() {
        KitchenBell b = kinds();
        // 10 and 3; 5 times 2 more; 100 more; HEAT 8 more; 13 + 6 * 3 + 100, twice
        int[] want = {13, 23, 123, 31, 262};
        for (int kind = 0; kind < 5; kind++) {
            b.keep(kind, 1, kind);
            DUE.is("weight of KIND " + kind, b.weight(kind), want[kind]);
        }
        DUE.is("weight(-1)", b.weight(-1), -1);
        DUE.is("weight(8)", b.weight(8), -1);
        DUE.is("weight(5), nothing", b.weight(5), -11);
        b.make(5, 3, 0);
        DUE.is("weight(5), ints", b.weight(5), -12);
        b.make(5, 4, 0);
        DUE.is("weight(5), shorts", b.weight(5), -12);
    }

    // Promise 35
    private static void failures() {
        KitchenBell b = kinds();
        int[] want = {-15, 1, 2, 3, 4};
        for (int kind = 0; kind < 5; kind++) {
            b.keep(kind, 1, kind);
            DUE.is("toss of KIND " + kind, b.toss(kind), want[kind]);
        }
        DUE.is("toss(-1)", b.toss(-1), -1);
        DUE.is("toss(8)", b.toss(8), -1);
        DUE.is("toss(5), nothing", b.toss(5), -11);
        b.make(5, 3, 0);
        DUE.is("toss(5), a ROW of ints", b.toss(5), -12);
        b.make(5, 4, 0);
        DUE.is("toss(5), a ROW of shorts", b.toss(5), -12);
        DUE.is("weight(4), still there", b.weight(4), 262);
    }

    /** The number is the DISH's: neither its KIND's nor its SHELF's. */
    private static void failuresByDish() {
        KitchenBell b = new KitchenBell();
        for (int dish = 0; dish < 20; dish++) {
            // GILDED ones first, so that no number is its KIND's but by chance
            b.dish(10 * (4 - dish % 5), 1, 32, 4);
        }
        for (int dish = 0; dish < 20; dish++) {
            int shelf = (3 * dish + 5) % 8;
            b.keep(shelf, 1, dish);
            DUE.is("toss of DISH " + dish, b.toss(shelf), dish % 5 == 4 ? -15 : dish);
            DUE.is("toss of DISH " + dish + " again", b.toss(shelf), dish % 5 == 4 ? -15 : dish);
        }
        b.keep(0, 1, 0);
        b.keep(1, 1, 0);
        DUE.is("toss of DISH 0", b.toss(0), 0);
        DUE.is("toss of DISH 0 on another SHELF", b.toss(1), 0);
        b.keep(0, 1, 5);
        DUE.is("toss of what lies there now", b.toss(0), 5);
        b.keep(0, 0, 0);
        DUE.is("toss of nothing", b.toss(0), -11);
    }
}
