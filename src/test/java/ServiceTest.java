/** Promises 10 to 17: the service. */
public final class ServiceTest {
    private static final Due DUE = new Due();

    public static void main(String[] args) {
        choosing();
        leaving();
        layingByNumbers();
        layingInMirror();
        nothingChosen();
        triesAreSpent();
        layingsAreCounted();
        places();
        swaps();
        changesOfOnePlace();
        changesOfTwoAndThreePlaces();
        changesThatAreTooMany();
        servingTakesGoods();
        servingRefused();
        servingNothing();
        DUE.end();
    }

    /** A COLD dish among HOT ones, so that kinds can stand beside one another. */
    private static KitchenBell kitchen(int... told) {
        KitchenBell b = new KitchenBell();
        for (int t : told) {
            b.dish(t, 1, 11, 5);
        }
        return b;
    }

    private static void chooseAll(KitchenBell b, int... dishes) {
        for (int d : dishes) {
            b.choose(d);
        }
    }

    // Promise 10
    private static void choosing() {
        KitchenBell b = kitchen(0, 10, 0, 10, 0, 10, 0, 10, 0, 10, 0);
        DUE.is("choose(-1)", b.choose(-1), -1);
        DUE.is("choose(11)", b.choose(11), -1);
        DUE.is("choose(4)", b.choose(4), 1);
        DUE.is("choose(4) again", b.choose(4), -3);
        b.fail(0, true);
        b.needs(5, 0, 1);
        DUE.is("choose(5) that CAN not be", b.choose(5), -3);
        DUE.is("count(1)", b.count(1), 1);
        b.lay();
        DUE.is("count(5), laid", b.count(5), 1);
        DUE.is("choose(5) refused", b.choose(5), -3);
        DUE.is("count(5), refused", b.count(5), 1);
        DUE.is("choose(1)", b.choose(1), 2);
        DUE.is("count(5), chosen", b.count(5), 0);
        chooseAll(b, 0, 2, 3, 6, 7, 8);
        DUE.is("choose(9), the ninth", b.choose(9), 9);
        DUE.is("choose(10), the tenth", b.choose(10), -2);
        DUE.is("choose(4), CHOSEN, as a tenth", b.choose(4), -2);
        DUE.is("choose(11), none such, as a tenth", b.choose(11), -1);
        DUE.is("look(9, 8)", b.look(9, 8), 8);
    }

    // Promise 11
    private static void leaving() {
        KitchenBell b = kitchen(0, 10, 20);
        chooseAll(b, 2, 0, 1);
        b.lay();
        DUE.is("leave(3)", b.leave(3), -1);
        DUE.is("leave(-1)", b.leave(-1), -1);
        DUE.is("count(5)", b.count(5), 1);
        DUE.is("leave(2)", b.leave(2), 2);
        DUE.is("count(5), left", b.count(5), 0);
        DUE.is("look(0, 8)", b.look(0, 8), 0);
        DUE.is("look(1, 8)", b.look(1, 8), 1);
        DUE.is("leave(2) again", b.leave(2), -3);
        b.lay();
        DUE.is("leave(2) with a table", b.leave(2), -3);
        DUE.is("count(5), refused", b.count(5), 1);
        DUE.is("leave(1)", b.leave(1), 1);
        DUE.is("leave(0)", b.leave(0), 0);
        DUE.is("choose(2)", b.choose(2), 1);
    }

    // Promise 12
    private static void layingByNumbers() {
        KitchenBell b = kitchen(0, 0, 10, 10);
        chooseAll(b, 3, 1, 2, 0);
        // 0; (1) 2; 1 taken; 3 taken: 1 + 2 + 1 + 1
        DUE.is("lay()", b.lay(), 5);
        DUE.table("lay()", b, 0, 2, 1, 3);
        KitchenBell back = kitchen(0, 0, 10);
        chooseAll(back, 0, 1, 2);
        // 0; (1) 2; 1
        DUE.is("lay() of three", back.lay(), 4);
        DUE.table("lay() of three", back, 0, 2, 1);
        KitchenBell far = kitchen(10, 0, 0);
        chooseAll(far, 0, 1, 2);
        // 0; 1; (2); 2; (1); back: 1; 0; 2
        DUE.is("lay() that goes back", far.lay(), 8);
        DUE.table("lay() that goes back", far, 1, 0, 2);
        KitchenBell none = kitchen(0, 0, 0);
        chooseAll(none, 0, 1, 2);
        DUE.is("lay() without a laying", none.lay(), -4);
        DUE.is("count(5)", none.count(5), 0);
        KitchenBell exact = kitchen(10, 20, 30, 40);
        chooseAll(exact, 3, 2, 1, 0);
        DUE.is("lay() of kinds under one another", exact.lay(), 4);
    }

    private static void layingInMirror() {
        KitchenBell b = new KitchenBell();
        b.dish(1, 1, 0, 0);
        b.dish(12, 2, 11, 0);
        b.dish(21, 1, 11, 0);
        b.dish(42, 2, 11, 0);
        b.dish(31, 2, 11, 5);
        chooseAll(b, 0, 1, 2, 3);
        // 0; 1; (2) 3; 2
        DUE.is("lay()", b.lay(), 5);
        DUE.table("lay()", b, 0, 1, 3, 2);
        b.choose(4);
        // the middle stands in mirror to itself
        DUE.is("lay() of five", b.lay() > 0 ? 1 : 0, 1);
        DUE.table("lay() of five", b, 0, 1, 4, 3, 2);
        b.leave(2);
        DUE.is("lay() with one size or colour alone", b.lay(), -4);
        KitchenBell sizes = new KitchenBell();
        sizes.dish(1, 1, 0, 0);
        sizes.dish(11, 2, 11, 0);
        chooseAll(sizes, 0, 1);
        DUE.is("lay() of two sizes", sizes.lay(), -4);
        KitchenBell colours = new KitchenBell();
        colours.dish(1, 1, 0, 0);
        colours.dish(12, 1, 11, 0);
        chooseAll(colours, 0, 1);
        DUE.is("lay() of two colours", colours.lay(), -4);
        colours.leave(1);
        DUE.is("lay() of one", colours.lay(), 1);
    }

    private static void nothingChosen() {
        KitchenBell b = kitchen(0);
        DUE.is("lay() of none", b.lay(), 0);
        DUE.is("count(5)", b.count(5), 1);
        DUE.is("place(0)", b.place(0), -1);
        DUE.is("swap(0, 0)", b.swap(0, 0), -1);
        DUE.is("change()", b.change(), 0);
        DUE.is("layings()", b.layings(), 1);
    }

    /** Nine dishes of one size, all CHOSEN, by their kinds and colours. */
    private static KitchenBell nine(int[] kinds, int[] colours) {
        KitchenBell b = new KitchenBell();
        for (int i = 0; i < 9; i++) {
            b.choose(b.dish(10 * kinds[i] + colours[i], 1, 11, 5));
        }
        return b;
    }

    private static void triesAreSpent() {
        int[] ends = {3, 0, 0, 0, 0, 0, 0, 0, 0};
        KitchenBell found = nine(new int[] {4, 3, 2, 1, 4, 4, 1, 3, 0}, ends);
        DUE.is("lay() just before tries are spent", found.lay(), 49977);
        DUE.is("count(5), laid", found.count(5), 1);
        DUE.is("layings() spent", found.layings(), -5);
        DUE.is("count(5), still laid", found.count(5), 1);
        KitchenBell spent = nine(new int[] {4, 3, 2, 3, 4, 4, 2, 1, 0}, ends);
        DUE.is("lay() that would be found just after", spent.lay(), -5);
        DUE.is("count(5), spent", spent.count(5), 0);
        KitchenBell none = nine(new int[] {4, 4, 0, 0, 0, 2, 1, 0, 4}, new int[] {0, 1, 2, 1, 2, 2, 2, 2, 1});
        DUE.is("lay() of none before tries are spent", none.lay(), -4);
        DUE.is("layings() of none before tries are spent", none.layings(), 0);
        KitchenBell late = nine(new int[] {4, 4, 1, 4, 0, 4, 2, 3, 4}, new int[] {0, 2, 0, 2, 0, 0, 2, 0, 0});
        DUE.is("lay() of none, spent", late.lay(), -5);
        KitchenBell many = nine(new int[] {4, 4, 3, 2, 0, 3, 3, 3, 2}, new int[] {1, 0, 2, 2, 0, 1, 2, 1, 2});
        DUE.is("layings() just before tries are spent", many.layings(), 384);
        KitchenBell more = nine(new int[] {3, 3, 1, 2, 2, 1, 2, 3, 3}, new int[] {2, 1, 0, 0, 0, 0, 0, 1, 2});
        DUE.is("layings() just after", more.layings(), -5);
        DUE.is("lay() of these", more.lay(), PlainKitchen.triesOf(more, 9));
    }

    // Promise 13
    private static void layingsAreCounted() {
        KitchenBell b = kitchen(0, 0, 10, 10);
        DUE.is("layings() of none", b.layings(), 1);
        b.choose(0);
        DUE.is("layings() of one", b.layings(), 1);
        b.choose(1);
        DUE.is("layings() of two of a kind", b.layings(), 0);
        b.choose(2);
        DUE.is("layings() of three", b.layings(), 2);
        b.choose(3);
        DUE.is("layings() of four", b.layings(), 8);
        DUE.is("count(5): layings() lays nothing", b.count(5), 0);
        b.lay();
        b.swap(0, 2);
        DUE.is("layings() with a table", b.layings(), 8);
        DUE.table("layings()", b, 1, 2, 0, 3);
        KitchenBell seven = kitchen(0, 10, 20, 30, 40, 0, 10, 20, 30);
        chooseAll(seven, 0, 1, 2, 3, 4);
        DUE.is("layings() of five kinds", seven.layings(), 120);
        seven.choose(5);
        seven.choose(6);
        // of 5040: 7! - 2 * 2 * 6! + 4 * 5!
        DUE.is("layings() of seven, two pairs", seven.layings(), 2640);
        seven.choose(7);
        DUE.is("layings() of eight", seven.layings(), -5);
    }

    // Promise 14
    private static void places() {
        KitchenBell b = kitchen(0, 10, 20);
        DUE.is("place(0), no table", b.place(0), -3);
        DUE.is("place(8), no table", b.place(8), -3);
        DUE.is("place(9), no table", b.place(9), -1);
        DUE.is("place(-1), no table", b.place(-1), -1);
        chooseAll(b, 2, 1, 0);
        b.lay();
        DUE.table("lay()", b, 0, 1, 2);
        DUE.is("place(3)", b.place(3), -1);
        DUE.is("place(8)", b.place(8), -1);
        DUE.is("place(-1)", b.place(-1), -1);
        DUE.is("place(max)", b.place(Integer.MAX_VALUE), -1);
        b.leave(0);
        DUE.is("place(0), taken away", b.place(0), -3);
    }

    // Promise 15
    private static void swaps() {
        KitchenBell b = kitchen(0, 10, 0, 10);
        DUE.is("swap(0, 8), no table", b.swap(0, 8), -3);
        DUE.is("swap(0, 9), no table", b.swap(0, 9), -1);
        DUE.is("swap(-1, 0), no table", b.swap(-1, 0), -1);
        chooseAll(b, 0, 1, 2, 3);
        b.lay();
        DUE.table("lay()", b, 0, 1, 2, 3);
        DUE.is("swap(0, 2)", b.swap(0, 2), 1);
        DUE.table("swap(0, 2)", b, 2, 1, 0, 3);
        DUE.is("swap(3, 1)", b.swap(3, 1), 1);
        DUE.table("swap(3, 1)", b, 2, 3, 0, 1);
        DUE.is("swap(0, 1)", b.swap(0, 1), -4);
        DUE.table("swap(0, 1)", b, 2, 3, 0, 1);
        DUE.is("swap(0, 4)", b.swap(0, 4), -1);
        DUE.is("swap(4, 0)", b.swap(4, 0), -1);
        DUE.is("swap(0, -1)", b.swap(0, -1), -1);
        DUE.is("swap(2, 2), the table as it is", b.swap(2, 2), 1);
        DUE.table("swap(2, 2)", b, 2, 3, 0, 1);
        DUE.is("look(0, 8): the order of those CHOSEN stays", b.look(0, 8), 0);
        KitchenBell mirror = new KitchenBell();
        mirror.dish(0, 1, 0, 0);
        mirror.dish(11, 1, 11, 0);
        mirror.dish(20, 1, 11, 0);
        chooseAll(mirror, 0, 1, 2);
        mirror.lay();
        DUE.table("lay() in mirror", mirror, 0, 1, 2);
        DUE.is("swap(0, 1) out of mirror", mirror.swap(0, 1), -4);
        DUE.is("swap(0, 2) in mirror", mirror.swap(0, 2), 1);
    }

    // Promise 16
    private static void changesOfOnePlace() {
        KitchenBell b = kitchen(0, 10, 20, 30, 30);
        DUE.is("change(), no table", b.change(), -3);
        chooseAll(b, 2, 1, 0);
        b.lay();
        DUE.is("change(), none needed", b.change(), 0);
        DUE.table("change() of none", b, 0, 1, 2);
        DUE.is("look(0, 8): by PLACES now", b.look(0, 8), 0);
        DUE.is("look(2, 8): by PLACES now", b.look(2, 8), 2);
        b.needs(1, 6, 1);
        DUE.is("change()", b.change(), 1);
        DUE.table("change()", b, 0, 3, 2);
        DUE.is("look(1, 8)", b.look(1, 8), -2);
        DUE.is("look(3, 8)", b.look(3, 8), 1);
        DUE.is("count(1)", b.count(1), 3);
        DUE.is("count(5)", b.count(5), 1);
        DUE.is("serve() of what was changed", b.serve(), 3);
        DUE.is("look(3, 6)", b.look(3, 6), 0);
        DUE.is("look(1, 6)", b.look(1, 6), -2);
    }

    private static void changesOfTwoAndThreePlaces() {
        // The colour at the ends goes as a pair.
        KitchenBell b = new KitchenBell();
        b.dish(1, 1, 0, 0);
        b.dish(12, 1, 11, 0);
        b.dish(21, 1, 11, 0);
        b.dish(3, 1, 0, 0);
        b.dish(23, 1, 11, 0);
        b.dish(43, 1, 11, 0);
        chooseAll(b, 0, 1, 2);
        b.lay();
        b.fail(0, true);
        b.needs(2, 0, 1);
        DUE.is("change() of a pair", b.change(), 2);
        DUE.table("change() of a pair", b, 3, 1, 4);
        // All three, by kinds: only 2, 4 and 5 are left, and 4 stands at one end.
        b.fail(0, false);
        b.needs(0, 1, 1);
        b.needs(1, 1, 1);
        b.needs(2, 1, 1);
        b.needs(3, 1, 1);
        b.dish(14, 1, 11, 0);
        DUE.is("change() of two again", b.change(), 2);
        DUE.table("change() of two again", b, 5, 6, 4);
        b.needs(4, 1, 1);
        b.needs(5, 1, 1);
        b.needs(6, 1, 1);
        b.dish(4, 2, 0, 0);
        b.dish(24, 2, 11, 0);
        b.dish(14, 3, 11, 0);
        DUE.is("change() of all three", b.change(), 3);
        DUE.table("change() of all three", b, 7, 9, 8);
    }

    private static void changesThatAreTooMany() {
        KitchenBell b = kitchen(0, 10, 0, 10, 20, 30, 20, 30);
        chooseAll(b, 0, 1, 2, 3);
        b.lay();
        for (int dish = 0; dish < 4; dish++) {
            b.needs(dish, 0, 1);
        }
        DUE.is("change() of four", b.change(), -4);
        DUE.table("change() of four", b, 0, 1, 2, 3);
        DUE.is("count(5)", b.count(5), 1);
        b.needs(1, 0, 0);
        DUE.is("change() of three of four", b.change(), 3);
        DUE.table("change() of three of four", b, 4, 1, 5, 6);
        DUE.is("look(6, 8)", b.look(6, 8), 3);
        // Two that only change their places are changes too.
        KitchenBell own = kitchen(0, 10, 20, 0);
        chooseAll(own, 0, 1, 2);
        own.lay();
        own.swap(0, 1);
        DUE.table("swap(0, 1)", own, 1, 0, 2);
        own.needs(0, 0, 1);
        own.needs(3, 0, 1);
        DUE.is("change() with too few", own.change(), -4);
        own.needs(3, 0, 0);
        DUE.is("change()", own.change(), 1);
        DUE.table("change()", own, 1, 3, 2);
    }

    // Promise 17
    private static void servingTakesGoods() {
        KitchenBell b = kitchen(0, 10, 20);
        b.needs(0, 0, 2);
        b.needs(1, 0, 3);
        b.needs(1, 7, 1);
        b.store(0, 9);
        b.store(7, 1);
        b.store(6, 5);
        b.day(3);
        b.choose(1);
        b.choose(0);
        b.lay();
        DUE.is("serve()", b.serve(), 2);
        DUE.is("good(-1, 0)", b.good(-1, 0), 4);
        DUE.is("good(-1, 7)", b.good(-1, 7), 0);
        DUE.is("good(-1, 6)", b.good(-1, 6), 5);
        DUE.is("count(1)", b.count(1), 0);
        DUE.is("count(3)", b.count(3), 4);
        DUE.is("count(5)", b.count(5), 0);
        DUE.is("look(0, 6)", b.look(0, 6), 3);
        DUE.is("look(1, 6)", b.look(1, 6), 3);
        DUE.is("look(2, 6)", b.look(2, 6), -2);
        DUE.is("serve() again", b.serve(), -3);
    }

    private static void servingRefused() {
        KitchenBell b = kitchen(0, 10);
        b.choose(0);
        b.choose(1);
        DUE.is("serve(), no table", b.serve(), -3);
        b.lay();
        b.needs(0, 2, 3);
        b.needs(1, 2, 3);
        b.store(2, 5);
        DUE.is("serve(), more NEEDED together", b.serve(), -3);
        b.store(2, 1);
        b.fail(2, true);
        DUE.is("serve(), one CAN not be", b.serve(), -3);
        DUE.is("good(-1, 2)", b.good(-1, 2), 6);
        DUE.is("count(3)", b.count(3), 0);
        DUE.is("count(1)", b.count(1), 2);
        DUE.is("count(5)", b.count(5), 1);
        b.fail(2, false);
        DUE.is("serve(), as much as there is", b.serve(), 2);
        DUE.is("good(-1, 2), all gone", b.good(-1, 2), 0);
        for (int good = 0; good < 8; good++) {
            KitchenBell scant = kitchen(0, 10);
            scant.needs(0, good, 4);
            scant.needs(1, good, 5);
            scant.store(good, 8);
            scant.choose(0);
            scant.choose(1);
            scant.lay();
            DUE.is("serve(), too little of " + good, scant.serve(), -3);
            scant.store(good, 1);
            DUE.is("serve(), enough of " + good, scant.serve(), 2);
        }
        KitchenBell soon = kitchen(0);
        soon.choose(0);
        soon.lay();
        soon.serve();
        soon.gap(0);
        soon.choose(0);
        soon.lay();
        soon.gap(5);
        DUE.is("serve() within the gap", soon.serve(), -3);
        soon.day(4);
        DUE.is("serve() after the gap", soon.serve(), 1);
        KitchenBell old = kitchen(0);
        old.choose(0);
        old.lay();
        // More calls than are promised; the limit can't be met with fewer.
        for (int n = 0; n < 1000; n++) {
            old.day(100);
        }
        DUE.is("serve() on the last day", old.serve(), -2);
        DUE.is("count(5) on the last day", old.count(5), 1);
    }

    private static void servingNothing() {
        KitchenBell b = kitchen(0);
        DUE.is("serve(), none CHOSEN, no table", b.serve(), -3);
        b.lay();
        DUE.is("serve(), none CHOSEN", b.serve(), 0);
        DUE.is("count(3)", b.count(3), 1);
        DUE.is("count(5)", b.count(5), 0);
    }
}
