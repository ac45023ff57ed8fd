/** Kitchens in which something is there of each sort, or as much as there may be. */
final class Kitchens {
    static final int BUSY_DISHES = 7;
    static final int BUSY_OFFICERS = 3;
    static final int FULL_PLACES = 9;

    private Kitchens() {
    }

    /** Seven DISHES of all KINDS; five CHOSEN and laid; fired, eaten from, with things on SHELVES 0 to 3. */
    static KitchenBell busy() {
        KitchenBell b = new KitchenBell();
        int[] told = {0, 10, 20, 30, 40, 11, 1};
        for (int t : told) {
            b.dish(t, 1, 32, 6);
        }
        for (int good = 0; good < 8; good++) {
            b.store(good, 10 + good);
        }
        b.needs(1, 1, 3);
        b.needs(2, 2, 4);
        b.needs(5, 5, 9);
        b.fail(4, true);
        b.day(3);
        b.gap(5);
        b.have(0, 2);
        b.have(3, 5);
        for (int dish = 4; dish >= 0; dish--) {
            b.choose(dish);
        }
        b.lay();
        b.bell();
        b.officer(5, 6, 3);
        b.officer(2, 7, 31);
        b.officer(5, 8, 12);
        b.left(0, 5);
        b.left(1, 6);
        b.left(3, 9);
        b.keep(0, 1, 3);
        b.keep(1, 3, 0);
        b.keep(2, 4, 5);
        b.keep(3, 1, 0);
        return b;
    }

    /** Twenty DISHES, nine CHOSEN and laid, eight OFFICERS, 100000 in store, 99 left, nothing free on a SHELF. */
    static KitchenBell full() {
        KitchenBell b = stored(100000);
        for (int dish = 0; dish < 20; dish++) {
            b.dish(10 * (dish % 5), 1, 11, 1);
        }
        for (int dish = 0; dish < FULL_PLACES; dish++) {
            b.choose(dish);
        }
        b.lay();
        for (int officer = 0; officer < 8; officer++) {
            b.officer(officer / 2, 50, 31);
        }
        b.left(0, 99);
        b.left(19, 99);
        b.keep(0, 1, 4);
        b.keep(1, 3, 0);
        b.keep(2, 4, 0);
        b.make(3, 3, 60);
        for (int shelf = 4; shelf < 8; shelf++) {
            b.keep(shelf, 1, shelf);
        }
        return b;
    }

    /** So much of GOOD 0 and nothing else. */
    static KitchenBell stored(int much) {
        KitchenBell b = new KitchenBell();
        for (int rest = much; rest > 0; rest -= 1000) {
            b.store(0, Math.min(rest, 1000));
        }
        return b;
    }

    /** Ten DISHES of two KINDS in turn, the first so many of them CHOSEN. */
    static KitchenBell chosen(int many) {
        KitchenBell b = new KitchenBell();
        for (int dish = 0; dish < 10; dish++) {
            b.dish(dish % 2 * 10, 1, 11, 0);
        }
        for (int dish = 0; dish < many; dish++) {
            b.choose(dish);
        }
        return b;
    }

    static KitchenBell laid(int many) {
        KitchenBell b = chosen(many);
        b.lay();
        return b;
    }
}
