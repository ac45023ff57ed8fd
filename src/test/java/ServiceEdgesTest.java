/** The edges of promises 10 to 17, sentence by sentence of the document. */
public final class ServiceEdgesTest {
    private static final int[] ENDS = {3, 0, 0, 0, 0, 0, 0, 0, 0};
    private static final Due DUE = new Due();
    private static final Refusals EMPTY = new Refusals(DUE, "(nothing there)", KitchenBell::new);
    private static final Refusals BUSY = new Refusals(DUE, "(busy)", Kitchens::busy);
    private static final Refusals FULL = new Refusals(DUE, "(all full)", Kitchens::full);

    public static void main(String[] args) {
        chooseWhat();
        chooseNineAndNoMore();
        chooseEachOnce();
        chooseWhatCanBe();
        chosenInTheirOrder();
        leaveWhat();
        leaveTheLastOne();
        whatChangesTheServiceTakesTheTableAway();
        whatDoesNotChangeItLeavesTheTable();
        layOfNone();
        layOfOne();
        layOfTwo();
        layOfNine();
        layWithoutAny();
        layDoesNotAskWhetherTheyCanBe();
        layTakesAnotherTableBack();
        mirrorFromTheEndsToTheMiddle();
        mirrorOfEachPair();
        nearFromTheFirstToTheLast();
        triesOfLayUpToTheirLimit();
        triesOfLayingsUpToTheirLimit();
        spentWithATable();
        layingsOfNoneAndOfNine();
        placesWithoutATable();
        placesOfATable();
        swapWithoutATable();
        swapPlacesOfATable();
        swapOutOfALaying();
        DUE.end();
    }

    private static Refusals laid(int many) {
        return new Refusals(DUE, "(" + many + " laid)", () -> Kitchens.laid(many));
    }

    private static Refusals chosen(int many) {
        return new Refusals(DUE, "(" + many + " CHOSEN)", () -> Kitchens.chosen(many));
    }

    /** All DISHES are CHOSEN, of so many KINDS and COLOURS and of one SIZE. */
    private static KitchenBell all(int[] kinds, int[] colours) {
        KitchenBell b = new KitchenBell();
        for (int i = 0; i < kinds.length; i++) {
            b.choose(b.dish(10 * kinds[i] + colours[i], 1, 11, 5));
        }
        return b;
    }

    // choose: "-1"
    private static void chooseWhat() {
        chosen(0).range("choose(n)", 0, 9, KitchenBell::choose);
        BUSY.refused("choose(7)", -1, b -> b.choose(7));
        BUSY.refused("choose(-1)", -1, b -> b.choose(-1));
        EMPTY.refused("choose(0)", -1, b -> b.choose(0));
        EMPTY.refused("choose(-1)", -1, b -> b.choose(-1));
    }

    // "-2: there are 9", behind -1 and ahead of -3
    private static void chooseNineAndNoMore() {
        chosen(8).taken("choose(8)", 9, b -> b.choose(8));
        chosen(8).taken("choose(9)", 9, b -> b.choose(9));
        chosen(9).refused("choose(9)", -2, b -> b.choose(9));
        chosen(9).refused("choose(0), CHOSEN", -2, b -> b.choose(0));
        chosen(9).refused("choose(10), none such", -1, b -> b.choose(10));
        chosen(9).refused("choose(-1), none such", -1, b -> b.choose(-1));
        FULL.refused("choose(9), with a table", -2, b -> b.choose(9));
        Refusals without = new Refusals(DUE, "(9 CHOSEN, another CAN not be)", () -> {
            KitchenBell b = Kitchens.chosen(9);
            b.needs(9, 0, 1);
            return b;
        });
        without.refused("choose(9)", -2, b -> b.choose(9));
        KitchenBell again = Kitchens.chosen(9);
        again.leave(4);
        DUE.is("choose(9), one having left", again.choose(9), 9);
        DUE.is("choose(4), one having left", again.choose(4), -2);
    }

    // "-3: it .. is CHOSEN"
    private static void chooseEachOnce() {
        chosen(1).refused("choose(0) again", -3, b -> b.choose(0));
        chosen(8).refused("choose(7) again", -3, b -> b.choose(7));
        BUSY.refused("choose(4) again", -3, b -> b.choose(4));
        KitchenBell b = Kitchens.chosen(1);
        b.leave(0);
        DUE.is("choose(0), having left", b.choose(0), 1);
    }

    // "-3: it CAN not be"
    private static void chooseWhatCanBe() {
        Refusals scant = new Refusals(DUE, "(8 of 9 in store)", () -> {
            KitchenBell b = Kitchens.laid(2);
            b.needs(2, 3, 9);
            b.store(3, 8);
            return b;
        });
        scant.refused("choose(2)", -3, b -> b.choose(2));
        scant.taken("choose(2) with one more in store", 3, b -> b.store(3, 1) == 9 ? b.choose(2) : -9);
        Refusals failed = new Refusals(DUE, "(a GOOD FAILED)", () -> {
            KitchenBell b = Kitchens.laid(2);
            b.needs(2, 3, 1);
            b.store(3, 8);
            b.fail(3, true);
            return b;
        });
        failed.refused("choose(2)", -3, b -> b.choose(2));
        failed.taken("choose(3), that doesn't NEED it", 3, b -> b.choose(3));
        Refusals soon = new Refusals(DUE, "(SERVED GAP less 1 DAYS ago)", () -> {
            KitchenBell b = Kitchens.laid(2);
            b.serve();
            b.day(5);
            return b;
        });
        soon.refused("choose(0)", -3, b -> b.choose(0));
        soon.taken("choose(0) a DAY later", 1, b -> b.day(1) == 7 ? b.choose(0) : -9);
        soon.taken("choose(2), never SERVED", 1, b -> b.choose(2));
        KitchenBell both = Kitchens.laid(2);
        both.needs(0, 0, 1);
        DUE.is("choose(0), CHOSEN, and CAN not be", both.choose(0), -3);
    }

    // "in the order in which they were"
    private static void chosenInTheirOrder() {
        KitchenBell b = Kitchens.chosen(0);
        for (int dish = 8; dish >= 0; dish--) {
            DUE.is("choose, how many are", b.choose(dish), 9 - dish);
        }
        for (int dish = 0; dish < 9; dish++) {
            DUE.is("look(" + dish + ", 8)", b.look(dish, 8), 8 - dish);
        }
        DUE.is("look(9, 8)", b.look(9, 8), -2);
        b.leave(8);
        b.leave(0);
        b.leave(4);
        int[] turns = {-2, 5, 4, 3, -2, 2, 1, 0, -2};
        for (int dish = 0; dish < 9; dish++) {
            DUE.is("look(" + dish + ", 8), three having left", b.look(dish, 8), turns[dish]);
        }
        b.choose(8);
        DUE.is("look(8, 8), CHOSEN again", b.look(8, 8), 6);
    }

    // leave: "-1; -3: it isn't"
    private static void leaveWhat() {
        chosen(9).range("leave(n)", 0, 9, KitchenBell::leave);
        chosen(9).refused("leave(9)", -3, b -> b.leave(9));
        chosen(9).refused("leave(10)", -1, b -> b.leave(10));
        BUSY.refused("leave(5)", -3, b -> b.leave(5));
        BUSY.refused("leave(6)", -3, b -> b.leave(6));
        BUSY.refused("leave(7)", -1, b -> b.leave(7));
        BUSY.refused("leave(-1)", -1, b -> b.leave(-1));
        EMPTY.refused("leave(0)", -1, b -> b.leave(0));
        FULL.refused("leave(19)", -3, b -> b.leave(19));
        FULL.taken("leave(8)", 8, b -> b.leave(8));
    }

    private static void leaveTheLastOne() {
        chosen(1).taken("leave(0)", 0, b -> b.leave(0));
        chosen(0).refused("leave(0), none CHOSEN", -3, b -> b.leave(0));
        KitchenBell b = Kitchens.chosen(9);
        for (int dish = 0; dish < 9; dish++) {
            DUE.is("leave(" + dish + ")", b.leave(dish), 8 - dish);
            DUE.is("leave(" + dish + ") again", b.leave(dish), -3);
        }
        DUE.is("count(1)", b.count(1), 0);
    }

    // "what changes THE SERVICE takes it away"
    private static void whatChangesTheServiceTakesTheTableAway() {
        laid(3).taken("whether there is a TABLE", 1, b -> b.count(5));
        laid(3).taken("the TABLE, one more CHOSEN", 0, b -> b.choose(3) == 4 ? b.count(5) : -9);
        laid(3).taken("the TABLE, one having left", 0, b -> b.leave(2) == 2 ? b.count(5) : -9);
        laid(3).taken("the TABLE, SERVED", 0, b -> b.serve() == 3 ? b.count(5) : -9);
        laid(3).taken("place(0), one more CHOSEN", -3, b -> b.choose(3) == 4 ? b.place(0) : -9);
        laid(3).taken("place(0), one having left", -3, b -> b.leave(2) == 2 ? b.place(0) : -9);
        laid(3).taken("place(0), SERVED", -3, b -> b.serve() == 3 ? b.place(0) : -9);
        laid(3).taken("the TABLE, one having left and come again", 0,
                b -> b.leave(2) == 2 && b.choose(2) == 3 ? b.count(5) : -9);
        laid(1).taken("the TABLE, the only one having left", 0, b -> b.leave(0) == 0 ? b.count(5) : -9);
        laid(0).taken("the empty TABLE", 1, b -> b.count(5));
        laid(0).taken("the empty TABLE, one CHOSEN", 0, b -> b.choose(0) == 1 ? b.count(5) : -9);
        laid(0).taken("the empty TABLE, SERVED", 0, b -> b.serve() == 0 ? b.count(5) : -9);
    }

    private static void whatDoesNotChangeItLeavesTheTable() {
        KitchenBell b = Kitchens.laid(3);
        b.needs(0, 0, 1);
        b.store(5, 1);
        b.fail(0, true);
        b.gap(0);
        b.day(100);
        b.dish(0, 1, 0, 0);
        b.layings();
        b.have(2, 2);
        b.fire(1);
        b.bell();
        b.left(0, 1);
        b.officer(0, 9, 31);
        b.eat();
        b.keep(0, 3, 0);
        DUE.is("count(5)", b.count(5), 1);
        DUE.is("swap(0, 2)", b.swap(0, 2), 1);
        DUE.table("swap(0, 2)", b, 2, 1, 0);
        DUE.is("look(0, 8)", b.look(0, 8), 0);
    }

    // lay, nothing there: the row of none is the one LAYING
    private static void layOfNone() {
        EMPTY.taken("lay()", 0, KitchenBell::lay);
        EMPTY.taken("layings()", 1, KitchenBell::layings);
        chosen(0).taken("lay()", 0, KitchenBell::lay);
        KitchenBell b = new KitchenBell();
        b.lay();
        DUE.is("count(5)", b.count(5), 1);
        DUE.table("lay() of none", b);
    }

    private static void layOfOne() {
        chosen(1).taken("lay()", 1, KitchenBell::lay);
        chosen(1).taken("layings()", 1, KitchenBell::layings);
        DUE.table("lay() of one", Kitchens.laid(1), 0);
    }

    private static void layOfTwo() {
        chosen(2).taken("lay()", 2, KitchenBell::lay);
        chosen(2).taken("layings()", 2, KitchenBell::layings);
        DUE.table("lay() of two", Kitchens.laid(2), 0, 1);
    }

    // "PLACES 0 .. n - 1", 9 at most
    private static void layOfNine() {
        chosen(9).taken("lay()", 9, KitchenBell::lay);
        DUE.table("lay() of nine", Kitchens.laid(9), 0, 1, 2, 3, 4, 5, 6, 7, 8);
        // place 8 comes last: the lower of two of a KIND can't stand beside its like
        KitchenBell b = all(new int[] {0, 1, 0, 1, 0, 1, 0, 0, 1}, new int[9]);
        // seven at once; (7), 8 at place 7; 7
        DUE.is("lay() that skips one at the end", b.lay(), 10);
        DUE.table("lay() that skips one at the end", b, 0, 1, 2, 3, 4, 5, 6, 8, 7);
    }

    // "-4: there is none"
    private static void layWithoutAny() {
        Refusals alike = new Refusals(DUE, "(two of a KIND)", () -> all(new int[] {2, 2}, new int[2]));
        alike.refused("lay()", -4, KitchenBell::lay);
        alike.taken("layings()", 0, KitchenBell::layings);
        alike.refused("change()", -3, KitchenBell::change);
        alike.refused("serve()", -3, KitchenBell::serve);
        alike.refused("place(0)", -3, b -> b.place(0));
        alike.refused("swap(0, 1)", -3, b -> b.swap(0, 1));
        Refusals unlike = new Refusals(DUE, "(two of other COLOUR)", () -> all(new int[] {2, 3}, new int[] {0, 1}));
        unlike.refused("lay()", -4, KitchenBell::lay);
        unlike.taken("layings()", 0, KitchenBell::layings);
    }

    // "CAN be" is asked of those CHOSEN when they are, and when they are SERVED
    private static void layDoesNotAskWhetherTheyCanBe() {
        KitchenBell b = Kitchens.chosen(3);
        for (int dish = 0; dish < 3; dish++) {
            b.needs(dish, 0, 9);
        }
        b.fail(0, true);
        DUE.is("layings()", b.layings(), 2);
        DUE.is("lay()", b.lay(), 3);
        DUE.is("count(1)", b.count(1), 3);
    }

    // "THE TABLE: the LAYING that was found or told last"
    private static void layTakesAnotherTableBack() {
        KitchenBell b = Kitchens.laid(3);
        b.swap(0, 2);
        DUE.table("swap(0, 2)", b, 2, 1, 0);
        DUE.is("lay() again", b.lay(), 3);
        DUE.table("lay() again", b, 0, 1, 2);
    }

    // "MIRROR: those at i and n - 1 - i have one SIZE and COLOUR"
    private static void mirrorFromTheEndsToTheMiddle() {
        for (int n = 2; n <= 9; n++) {
            for (int i = 0; i < n; i++) {
                // only an odd row has a middle, and with KINDS in turn it is of every second's KIND
                boolean may = n % 2 == 1 && (n - 1) / 2 % 2 == i % 2;
                String one = "whether there is a TABLE of " + n + ", DISH " + i + " of another ";
                DUE.is(one + "COLOUR", oneOther(n, i, 1, 0).count(5), may ? 1 : 0);
                DUE.is(one + "SIZE", oneOther(n, i, 0, 1).count(5), may ? 1 : 0);
                DUE.is(one + "SIZE and COLOUR", oneOther(n, i, -1, 1).count(5), may ? 1 : 0);
                if (may) {
                    DUE.is("its place", oneOther(n, i, 1, 0).place((n - 1) / 2), i);
                }
            }
        }
    }

    /** So many DISHES of two KINDS in turn, all alike but one; laid, if they can be. */
    private static KitchenBell oneOther(int n, int other, int colourMore, int sizeMore) {
        KitchenBell b = new KitchenBell();
        for (int dish = 0; dish < n; dish++) {
            int colour = 2 + (dish == other ? colourMore : 0);
            b.choose(b.dish(dish % 2 * 10 + colour, 1 + (dish == other ? sizeMore : 0), 11, 0));
        }
        b.lay();
        return b;
    }

    /** Nine DISHES of two KINDS in turn, each pair from the ends to the middle with a look of its own. */
    private static KitchenBell pairs() {
        // the SIZE and COLOUR of one pair are those of another the other way round, or have one sum
        int[] sizes = {1, 2, 3, 1, 2};
        int[] colours = {2, 1, 0, 1, 2};
        KitchenBell b = new KitchenBell();
        for (int dish = 0; dish < 9; dish++) {
            int pair = Math.min(dish, 8 - dish);
            b.choose(b.dish(dish % 2 * 10 + colours[pair], sizes[pair], 11, 0));
        }
        b.lay();
        return b;
    }

    private static void mirrorOfEachPair() {
        DUE.table("lay() of pairs", pairs(), 0, 1, 2, 3, 4, 5, 6, 7, 8);
        DUE.is("layings() of pairs", pairs().layings(), 4 * 16);
        for (int i = 0; i < 9; i++) {
            for (int j = i % 2; j < 9; j += 2) {
                DUE.is("swap(" + i + ", " + j + ")", pairs().swap(i, j), j == i || j == 8 - i ? 1 : -4);
            }
        }
    }

    // "NEAR: no two of one KIND at PLACES beside one another"
    private static void nearFromTheFirstToTheLast() {
        for (int kind = 0; kind < 5; kind++) {
            for (int other = 0; other < 5; other++) {
                int[] two = {kind, other};
                DUE.is("lay() of KINDS " + kind + ", " + other, all(two, new int[2]).lay(), kind == other ? -4 : 2);
            }
        }
        DUE.is("lay() of two of a KIND with another between", all(new int[] {0, 1, 0}, new int[3]).lay(), 3);
        KitchenBell atTheEnds = all(new int[] {0, 1, 2, 0}, new int[4]);
        DUE.is("lay() of two of a KIND at the ends", atTheEnds.lay(), 4);
        DUE.is("swap(0, 2): the last two of a KIND", atTheEnds.swap(0, 2), -4);
        DUE.is("swap(1, 2): none", atTheEnds.swap(1, 2), 1);
        DUE.is("swap(1, 3): the first two of a KIND", atTheEnds.swap(1, 3), -4);
        DUE.is("swap(0, 3): none", atTheEnds.swap(0, 3), 1);
        DUE.table("swap(0, 3)", atTheEnds, 3, 2, 1, 0);
        KitchenBell inTheMiddle = all(new int[] {0, 1, 2, 1}, new int[4]);
        inTheMiddle.lay();
        DUE.is("swap(2, 3): those in the middle of a KIND", inTheMiddle.swap(2, 3), -4);
        DUE.is("swap(0, 2): none", inTheMiddle.swap(0, 2), 1);
    }

    // "50000 at most: where one more would be made SPENT"; no LAYING is the first after 49978 to 50019 TRIES
    private static void triesOfLayUpToTheirLimit() {
        KitchenBell last = all(new int[] {4, 3, 2, 1, 4, 4, 1, 3, 0}, ENDS);
        DUE.is("lay() after 49977", last.lay(), 49977);
        DUE.is("count(5)", last.count(5), 1);
        Refusals first = new Refusals(DUE, "(found after 50020)", () ->
                all(new int[] {1, 3, 4, 3, 1, 1, 0, 2, 4}, ENDS));
        first.refused("lay()", -5, KitchenBell::lay);
        first.refused("layings()", -5, KitchenBell::layings);
        first.refused("place(0)", -3, b -> b.place(0));
        Refusals none = new Refusals(DUE, "(none, after 49995)", () ->
                all(new int[] {3, 0, 4, 2, 3, 2, 3, 3, 1}, new int[] {1, 4, 4, 0, 1, 4, 2, 3, 1}));
        none.refused("lay()", -4, KitchenBell::lay);
        none.taken("layings()", 0, KitchenBell::layings);
        Refusals late = new Refusals(DUE, "(none, after 50021)", () ->
                all(new int[] {1, 4, 4, 3, 1, 3, 4, 4, 2}, new int[] {2, 2, 1, 4, 2, 2, 2, 1, 3}));
        late.refused("lay()", -5, KitchenBell::lay);
        late.refused("layings()", -5, KitchenBell::layings);
    }

    // "TRIES go on behind each LAYING as if it had failed"
    private static void triesOfLayingsUpToTheirLimit() {
        KitchenBell last = all(new int[] {0, 3, 4, 2, 3, 2, 0, 2, 2}, new int[] {3, 2, 0, 2, 0, 3, 3, 2, 3});
        DUE.is("layings(), after 49981", last.layings(), 384);
        DUE.is("layings() again", last.layings(), 384);
        KitchenBell first = all(new int[] {2, 0, 2, 3, 3, 3, 3, 4, 1}, new int[] {3, 2, 3, 1, 2, 1, 4, 4, 4});
        DUE.is("layings(), after 50015", first.layings(), -5);
        DUE.is("lay() of the same", first.lay() > 0 ? 1 : 0, 1);
        DUE.is("layings() with a TABLE", first.layings(), -5);
        DUE.is("count(5)", first.count(5), 1);
    }

    /** A TABLE that change() found where lay() can't. */
    private static KitchenBell changedWhereSpent() {
        int[] kinds = {4, 3, 2, 1, 3, 4, 4, 1, 2, 3, 1, 0};
        KitchenBell b = new KitchenBell();
        for (int dish = 0; dish < kinds.length; dish++) {
            b.dish(10 * kinds[dish] + (dish == 0 ? 3 : 0), 1, 11, 5);
        }
        for (int dish : new int[] {0, 1, 2, 3, 5, 6, 7, 9, 11}) {
            b.choose(dish);
        }
        b.lay();
        b.needs(3, 0, 1);
        b.needs(7, 0, 1);
        b.needs(9, 0, 1);
        b.change();
        return b;
    }

    private static void spentWithATable() {
        Refusals spent = new Refusals(DUE, "(with a TABLE)", ServiceEdgesTest::changedWhereSpent);
        spent.taken("count(5)", 1, b -> b.count(5));
        spent.refused("lay()", -5, KitchenBell::lay);
        spent.refused("layings()", -5, KitchenBell::layings);
        DUE.table("change()", changedWhereSpent(), 1, 2, 4, 8, 0, 10, 5, 11, 6);
    }

    private static void layingsOfNoneAndOfNine() {
        // KINDS in turn: with n DISHES, (n / 2)! * ((n + 1) / 2)! rows, twice as many if n is even
        int[] want = {1, 1, 2, 2, 8, 12, 72, 144, 1152, 2880};
        for (int n = 0; n <= 9; n++) {
            chosen(n).taken("layings()", want[n], KitchenBell::layings);
            laid(n).taken("layings()", want[n], KitchenBell::layings);
            chosen(n).taken("the TABLE, layings() asked", 0, b -> b.layings() > 0 ? b.count(5) : -9);
        }
    }

    // "-1 (0 .. 8 are none such only if there is a TABLE without them); -3: there is no TABLE"
    private static void placesWithoutATable() {
        for (Refusals none : new Refusals[] {EMPTY, chosen(3), chosen(9)}) {
            for (int i = 0; i <= 8; i++) {
                int place = i;
                none.refused("place(" + i + ")", -3, b -> b.place(place));
            }
            none.refused("place(9)", -1, b -> b.place(9));
            none.refused("place(-1)", -1, b -> b.place(-1));
            none.refused("place(max)", -1, b -> b.place(Integer.MAX_VALUE));
            none.refused("place(min)", -1, b -> b.place(Integer.MIN_VALUE));
        }
    }

    private static void placesOfATable() {
        for (int n = 0; n <= 9; n++) {
            for (int i = 0; i < n; i++) {
                int place = i;
                laid(n).taken("place(" + i + ")", i, b -> b.place(place));
            }
            for (int i = n; i <= 9; i++) {
                int place = i;
                laid(n).refused("place(" + i + ")", -1, b -> b.place(place));
            }
            laid(n).refused("place(-1)", -1, b -> b.place(-1));
            laid(n).refused("place(max)", -1, b -> b.place(Integer.MAX_VALUE));
            laid(n).refused("place(min)", -1, b -> b.place(Integer.MIN_VALUE));
        }
    }

    // swap: "-1 (likewise); -3"
    private static void swapWithoutATable() {
        for (Refusals none : new Refusals[] {EMPTY, chosen(3), chosen(9)}) {
            none.refused("swap(0, 0)", -3, b -> b.swap(0, 0));
            none.refused("swap(0, 8)", -3, b -> b.swap(0, 8));
            none.refused("swap(8, 0)", -3, b -> b.swap(8, 0));
            none.refused("swap(8, 8)", -3, b -> b.swap(8, 8));
            none.refused("swap(0, 9)", -1, b -> b.swap(0, 9));
            none.refused("swap(9, 0)", -1, b -> b.swap(9, 0));
            none.refused("swap(0, -1)", -1, b -> b.swap(0, -1));
            none.refused("swap(-1, 0)", -1, b -> b.swap(-1, 0));
        }
    }

    private static void swapPlacesOfATable() {
        for (int n = 0; n <= 9; n++) {
            int beyond = n;
            for (int i = 0; i < n; i++) {
                int place = i;
                // a swap of a PLACE with itself is one of the LAYING that there is
                laid(n).taken("swap(" + i + ", " + i + ")", 1, b -> b.swap(place, place));
                laid(n).refused("swap(" + i + ", " + n + ")", -1, b -> b.swap(place, beyond));
                laid(n).refused("swap(" + n + ", " + i + ")", -1, b -> b.swap(beyond, place));
            }
            laid(n).refused("swap(-1, 0)", -1, b -> b.swap(-1, 0));
            laid(n).refused("swap(0, -1)", -1, b -> b.swap(0, -1));
            laid(n).refused("swap(n, n)", -1, b -> b.swap(beyond, beyond));
            laid(n).refused("swap(8, 9)", -1, b -> b.swap(8, 9));
            laid(n).refused("swap(max, min)", -1, b -> b.swap(Integer.MAX_VALUE, Integer.MIN_VALUE));
        }
        laid(9).taken("swap(0, 8)", 1, b -> b.swap(0, 8));
        laid(9).taken("swap(8, 0)", 1, b -> b.swap(8, 0));
        laid(2).taken("swap(0, 1)", 1, b -> b.swap(0, 1));
        laid(2).taken("place(0) after swap(0, 1)", 1, b -> b.swap(0, 1) == 1 ? b.place(0) : -9);
        laid(2).taken("place(1) after swap(1, 0)", 0, b -> b.swap(1, 0) == 1 ? b.place(1) : -9);
    }

    // "-4: it would be no LAYING"
    private static void swapOutOfALaying() {
        for (int n = 3; n <= 9; n++) {
            int last = n - 1;
            laid(n).refused("swap(0, 1)", -4, b -> b.swap(0, 1));
            laid(n).refused("swap(n - 1, n - 2)", -4, b -> b.swap(last, last - 1));
        }
        Refusals mirror = new Refusals(DUE, "(in pairs)", ServiceEdgesTest::pairs);
        mirror.refused("swap(0, 2)", -4, b -> b.swap(0, 2));
        mirror.refused("swap(4, 8)", -4, b -> b.swap(4, 8));
        mirror.refused("swap(3, 9)", -1, b -> b.swap(3, 9));
    }
}
