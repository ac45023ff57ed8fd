/**
 * "Nothing is promised beyond the answers and state changes described above": of a kitchen in which something
 * is there of each sort, a call changes what it says. The words behind a call name what may look otherwise then;
 * all else is as with a twin that wasn't asked.
 */
public final class NothingElseTest {
    private static final String COUNTS = "counts";
    private static final String DISHES = "dishes";
    private static final String NEEDS = "needs";
    private static final String TABLE = "table";
    private static final String SERVICE = "service";
    private static final String FIRING = "firing";
    private static final String NEXT_FIRING = "nextFiring";
    private static final String LEAVINGS = "leavings";
    private static final String SHELVES = "shelves";
    private static final Due DUE = new Due();
    private static final Refusals BUSY = new Refusals(DUE, "(busy)", Kitchens::busy);

    public static void main(String[] args) {
        dishesAndStores();
        theService();
        theBell();
        leavings();
        shelves();
        whatIsAskedChangesNothing();
        anotherObjectChangesNothing();
        DUE.end();
    }

    private static void dishesAndStores() {
        // a new DISH shows wherever DISHES are asked for by numbers
        BUSY.changes("dish", 7, b -> b.dish(0, 1, 0, 0), COUNTS, DISHES, NEEDS, SERVICE, FIRING, NEXT_FIRING, LEAVINGS);
        BUSY.changes("needs(6, 0, 2)", 0, b -> b.needs(6, 0, 2), NEEDS);
        BUSY.changes("needs(1, 1, 3), as before", 3, b -> b.needs(1, 1, 3));
        BUSY.changes("needs(1, 1, 9) of one CHOSEN", 3, b -> b.needs(1, 1, 9), NEEDS);
        BUSY.changes("store(0, 5)", 15, b -> b.store(0, 5), COUNTS);
        BUSY.changes("fail(0, true)", 1, b -> b.fail(0, true), COUNTS);
        BUSY.changes("fail(0, false), as before", 0, b -> b.fail(0, false));
        BUSY.changes("fail(4, true), as before", 0, b -> b.fail(4, true));
        BUSY.changes("fail(1, true), that one CHOSEN NEEDS", 1, b -> b.fail(1, true), COUNTS, DISHES, SERVICE);
        BUSY.changes("gap(9)", 5, b -> b.gap(9), COUNTS, SERVICE);
        BUSY.changes("day(3)", 6, b -> b.day(3), COUNTS, SERVICE);
    }

    private static void theService() {
        BUSY.changes("choose(6)", 6, b -> b.choose(6), COUNTS, DISHES, TABLE, SERVICE);
        BUSY.changes("choose(5)", 6, b -> b.choose(5), COUNTS, DISHES, TABLE, SERVICE, NEXT_FIRING);
        BUSY.changes("leave(0)", 4, b -> b.leave(0), COUNTS, DISHES, TABLE, SERVICE);
        BUSY.changes("leave(1)", 4, b -> b.leave(1), COUNTS, DISHES, TABLE, SERVICE, NEXT_FIRING);
        BUSY.changes("lay() of what is laid", 5, KitchenBell::lay);
        BUSY.changes("layings()", 120, KitchenBell::layings);
        BUSY.changes("swap(0, 4)", 1, b -> b.swap(0, 4), TABLE, SERVICE);
        BUSY.changes("swap(2, 2)", 1, b -> b.swap(2, 2));
        // they were CHOSEN backwards
        BUSY.changes("change() of none", 0, KitchenBell::change, DISHES);
        BUSY.changes("serve()", 5, KitchenBell::serve, COUNTS, DISHES, TABLE, SERVICE, NEXT_FIRING);
    }

    private static void theBell() {
        BUSY.changes("have(1, 3)", 1, b -> b.have(1, 3), COUNTS);
        BUSY.changes("have(2, 0)", 1, b -> b.have(2, 0), COUNTS, NEXT_FIRING);
        // of two and three of five HANDS, no third DISH is over fire together with two
        BUSY.changes("fire", 2, b -> b.fire(4 | 3 << 5 | 2 << 10 | 1 << 15), FIRING);
        BUSY.changes("bell() again", 2, KitchenBell::bell);
    }

    private static void leavings() {
        BUSY.changes("officer(0, 5, 31)", 3, b -> b.officer(0, 5, 31), COUNTS, SERVICE, LEAVINGS);
        BUSY.changes("left(2, 4)", 4, b -> b.left(2, 4), COUNTS, SERVICE, LEAVINGS);
        BUSY.changes("eat()", 1, KitchenBell::eat, COUNTS, SERVICE, LEAVINGS);
    }

    private static void shelves() {
        BUSY.changes("keep(0, 0, 0)", 0, b -> b.keep(0, 0, 0), SHELVES);
        BUSY.changes("keep(4, 1, 2)", 0, b -> b.keep(4, 1, 2), SHELVES);
        BUSY.changes("keep(4, 3, 0)", 0, b -> b.keep(4, 3, 0), SHELVES);
        BUSY.changes("keep(4, 4, 2)", 0, b -> b.keep(4, 4, 2), SHELVES);
        BUSY.changes("make(4, 3, 5)", 0, b -> b.make(4, 3, 5), SHELVES);
        BUSY.changes("copy(1, 0, 1, 1, 3)", 3, b -> b.copy(1, 0, 1, 1, 3), SHELVES);
        BUSY.changes("copy(1, 0, 1, 1, 0)", 0, b -> b.copy(1, 0, 1, 1, 0));
        BUSY.changes("copy(1, 0, 1, 0, 5)", 5, b -> b.copy(1, 0, 1, 0, 5));
    }

    private static void whatIsAskedChangesNothing() {
        BUSY.changes("look(4, 7)", 1, b -> b.look(4, 7));
        BUSY.changes("good(1, 1)", 3, b -> b.good(1, 1));
        BUSY.changes("place(4)", 4, b -> b.place(4));
        BUSY.changes("fired(4, 1)", 0, b -> b.fired(4, 1));
        BUSY.changes("waits()", Kitchens.busy().waits(), KitchenBell::waits);
        BUSY.changes("hands(0)", Kitchens.busy().hands(0), b -> b.hands(0));
        BUSY.changes("eats(1, -1)", 7, b -> b.eats(1, -1));
        BUSY.changes("last()", 2, KitchenBell::last);
        BUSY.changes("count(6)", 20, b -> b.count(6));
        BUSY.changes("element(1, 4)", 4, b -> b.element(1, 4));
        BUSY.changes("weight(0)", 10 + 1 + 6 + 6, b -> b.weight(0));
        BUSY.changes("toss(0)", 3, b -> b.toss(0));
    }

    private static void anotherObjectChangesNothing() {
        BUSY.changes("another object's calls", 0, b -> {
            KitchenBell full = Kitchens.full();
            return full.bell() + full.serve() + full.eat() + full.make(1, 4, 9) > -100 ? 0 : -9;
        });
    }
}
