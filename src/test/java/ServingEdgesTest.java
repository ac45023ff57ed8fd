/** The edges of promises 16 and 17, sentence by sentence of the document. */
public final class ServingEdgesTest {
    private static final Due DUE = new Due();
    private static final Refusals EMPTY = new Refusals(DUE, "(nothing there)", KitchenBell::new);
    private static final Refusals BUSY = new Refusals(DUE, "(busy)", Kitchens::busy);
    private static final Refusals FULL = new Refusals(DUE, "(all full)", Kitchens::full);

    public static void main(String[] args) {
        changeWithoutATable();
        changeOfTheEmptyTable();
        changeOfNoPlace();
        changeOfTheOnlyPlace();
        changeOfThreePlacesAndNoMore();
        changeOfThreeOfNine();
        changeOfTheFewestPlaces();
        changeToTheLeastRow();
        changeUsesEachOnce();
        changeOfAPair();
        changePutsThoseThereToOtherPlaces();
        changeOfAllThatCanBe();
        changeAsksEachAlone();
        changeMakesThoseThereTheChosenOnes();
        changeAmongTwenty();
        serveWithoutATable();
        serveTheEmptyTable();
        serveOneAndNine();
        serveTheLastOfTheStores();
        serveMoreThanThereIs();
        serveOneThatCanNotBe();
        serveOnTheFirstDays();
        serveOnTheLastDay();
        servedAndChosenAgain();
        DUE.end();
    }

    /** A laid service of the first so many DISHES; those named then NEED what there is none of. */
    private static KitchenBell without(KitchenBell b, int many, int... lost) {
        for (int dish = 0; dish < many; dish++) {
            b.choose(dish);
        }
        b.lay();
        for (int dish : lost) {
            b.needs(dish, 6, 1);
        }
        return b;
    }

    /** DISHES of one look, of so many KINDS. */
    private static KitchenBell ofKinds(int... kinds) {
        KitchenBell b = new KitchenBell();
        for (int kind : kinds) {
            b.dish(10 * kind, 1, 11, 5);
        }
        return b;
    }

    // "-3: there is no TABLE", ahead of "-4: there is none with 3 PLACES at most"
    private static void changeWithoutATable() {
        EMPTY.refused("change()", -3, KitchenBell::change);
        new Refusals(DUE, "(CHOSEN, not laid)", () -> Kitchens.chosen(9)).refused("change()", -3, KitchenBell::change);
        Refusals none = new Refusals(DUE, "(not laid, none CAN be)", () -> {
            KitchenBell b = without(ofKinds(0, 1), 2, 0, 1);
            b.leave(1);
            return b;
        });
        none.refused("change()", -3, KitchenBell::change);
    }

    private static void changeOfTheEmptyTable() {
        KitchenBell b = without(ofKinds(0, 1), 0, 0, 1);
        DUE.is("change() of no PLACES", b.change(), 0);
        DUE.is("count(5)", b.count(5), 1);
        DUE.is("count(1)", b.count(1), 0);
    }

    // "the fewest PLACES": none, though a lesser row is there
    private static void changeOfNoPlace() {
        KitchenBell b = Kitchens.laid(3);
        b.swap(0, 2);
        DUE.is("change()", b.change(), 0);
        DUE.table("change()", b, 2, 1, 0);
        KitchenBell higher = ofKinds(0, 1, 0, 1);
        higher.choose(2);
        higher.choose(3);
        higher.lay();
        DUE.is("change() with lesser ones about", higher.change(), 0);
        DUE.table("change() with lesser ones about", higher, 2, 3);
        DUE.is("change() again", higher.change(), 0);
    }

    private static void changeOfTheOnlyPlace() {
        KitchenBell b = without(ofKinds(0, 0, 0), 1, 0, 1);
        DUE.is("change() of one PLACE", b.change(), 1);
        DUE.table("change() of one PLACE", b, 2);
        Refusals none = new Refusals(DUE, "(one laid, none CAN be)", () -> without(ofKinds(0, 0), 1, 0, 1));
        none.refused("change()", -4, KitchenBell::change);
        Refusals alone = new Refusals(DUE, "(the only DISH CAN not be)", () -> without(ofKinds(0), 1, 0));
        alone.refused("change()", -4, KitchenBell::change);
    }

    // "3 at most"
    private static void changeOfThreePlacesAndNoMore() {
        KitchenBell three = without(ofKinds(0, 1, 0, 1, 0, 1, 0, 1), 4, 0, 1, 2);
        DUE.is("change() of three of four", three.change(), 3);
        DUE.table("change() of three of four", three, 4, 5, 6, 3);
        Refusals four = new Refusals(DUE, "(four of four CAN not be)", () ->
                without(ofKinds(0, 1, 0, 1, 0, 1, 0, 1), 4, 0, 1, 2, 3));
        four.refused("change()", -4, KitchenBell::change);
        KitchenBell all = without(ofKinds(0, 1, 0, 1, 0, 1), 3, 0, 1, 2);
        DUE.is("change() of three of three", all.change(), 3);
        DUE.table("change() of three of three", all, 3, 4, 5);
    }

    private static void changeOfThreeOfNine() {
        KitchenBell three = without(nineAndMore(), 9, 0, 4, 8);
        DUE.is("change() of three of nine", three.change(), 3);
        DUE.table("change() of three of nine", three, 10, 1, 2, 3, 12, 5, 6, 7, 14);
        Refusals four = new Refusals(DUE, "(four of nine CAN not be)", () -> without(nineAndMore(), 9, 0, 4, 6, 8));
        four.refused("change()", -4, KitchenBell::change);
        Refusals nine = new Refusals(DUE, "(nine of nine CAN not be)", () ->
                without(nineAndMore(), 9, 0, 1, 2, 3, 4, 5, 6, 7, 8));
        nine.refused("change()", -4, KitchenBell::change);
    }

    /** KINDS in turn, nine and nine more. */
    private static KitchenBell nineAndMore() {
        return ofKinds(0, 1, 0, 1, 0, 1, 0, 1, 0, 1, 0, 1, 0, 1, 0, 1, 0, 1);
    }

    private static void changeOfTheFewestPlaces() {
        // one PLACE by a high number, or two by low ones: the one
        KitchenBell b = ofKinds(0, 1, 0, 2, 0, 1, 0, 4);
        b.choose(2);
        b.choose(3);
        b.choose(4);
        b.lay();
        b.needs(3, 6, 1);
        b.needs(1, 6, 1);
        b.needs(5, 6, 1);
        DUE.is("change()", b.change(), 1);
        DUE.table("change()", b, 2, 7, 4);
    }

    // "of these the least as a row"
    private static void changeToTheLeastRow() {
        KitchenBell b = without(ofKinds(0, 1, 0, 4, 3, 2, 1), 3, 1);
        DUE.is("change()", b.change(), 1);
        DUE.table("change(), the least that fits", b, 0, 3, 2);
        // the first PLACE decides, not the sum of numbers: 3 then 6 goes ahead of 4 then 5
        KitchenBell two = new KitchenBell();
        for (int colour : new int[] {1, 1, 2, 2, 2, 2}) {
            two.dish(two.count(0) % 2 * 10 + colour, 1, 11, 5);
        }
        two.choose(0);
        two.choose(1);
        two.lay();
        two.needs(0, 6, 1);
        DUE.is("change() of both", two.change(), 2);
        DUE.table("change() of both", two, 2, 3);
        two.needs(2, 6, 1);
        DUE.is("change() of the first", two.change(), 1);
        DUE.table("change() of the first", two, 4, 3);
        two.needs(4, 6, 1);
        DUE.is("change() of none left", two.change(), -4);
        DUE.table("change() of none left", two, 4, 3);
    }

    // "of all that CAN be, each once"
    private static void changeUsesEachOnce() {
        Refusals none = new Refusals(DUE, "(the others are there already)", () ->
                without(ofKinds(0, 1, 0), 3, 1));
        none.refused("change()", -4, KitchenBell::change);
        KitchenBell b = without(ofKinds(0, 1, 0, 1, 0), 3, 0);
        DUE.is("change() beside those there already", b.change(), 1);
        DUE.table("change() beside those there already", b, 4, 1, 2);
        KitchenBell both = without(ofKinds(0, 1, 0, 1, 0, 0), 3, 0, 2);
        DUE.is("change() of two by two", both.change(), 2);
        DUE.table("change() of two by two", both, 4, 1, 5);
        Refusals one = new Refusals(DUE, "(one for two)", () -> without(ofKinds(0, 1, 0, 0), 3, 0, 2));
        one.refused("change()", -4, KitchenBell::change);
    }

    // "MIRROR": the other end goes too, if no other has the look
    private static void changeOfAPair() {
        KitchenBell b = new KitchenBell();
        for (int colour : new int[] {0, 2, 0, 1, 1}) {
            b.dish(new int[] {0, 10, 20, 0, 20}[b.count(0)] + colour, 1, 11, 5);
        }
        without(b, 3, 0);
        DUE.is("change() of a pair", b.change(), 2);
        DUE.table("change() of a pair", b, 3, 1, 4);
        DUE.is("look(2, 8), that CAN be", b.look(2, 8), -2);
        b.needs(3, 6, 1);
        DUE.is("change() of the pair back", b.change(), -4);
        DUE.table("change() of the pair back", b, 3, 1, 4);
    }

    private static void changePutsThoseThereToOtherPlaces() {
        // 0 1 2, of KINDS 0 1 2; 1 is lost, and 3 is of KIND 0: it stands at an end, 2 comes to the middle
        KitchenBell b = without(ofKinds(0, 1, 2, 0), 3, 1);
        DUE.is("change()", b.change(), 2);
        DUE.table("change()", b, 0, 2, 3);
        KitchenBell four = without(ofKinds(0, 1, 2, 4, 0), 4, 1);
        DUE.is("change() of four", four.change(), 2);
        DUE.table("change() of four", four, 0, 2, 4, 3);
        KitchenBell three = without(ofKinds(0, 1, 2, 0), 3, 0);
        DUE.is("change() of the first", three.change(), 1);
        DUE.table("change() of the first", three, 3, 1, 2);
    }

    private static void changeOfAllThatCanBe() {
        KitchenBell failed = without(ofKinds(0, 1, 0, 1, 1), 3, 1);
        failed.needs(3, 2, 1);
        failed.store(2, 1);
        failed.fail(2, true);
        DUE.is("change() past what FAILED", failed.change(), 1);
        DUE.table("change() past what FAILED", failed, 0, 4, 2);
        KitchenBell scant = ofKinds(0, 1, 0, 1, 1);
        scant.needs(3, 2, 9);
        scant.store(2, 8);
        without(scant, 3, 1);
        DUE.is("change() past 8 of 9", scant.change(), 1);
        DUE.table("change() past 8 of 9", scant, 0, 4, 2);
        KitchenBell enough = ofKinds(0, 1, 0, 1, 1);
        enough.needs(3, 2, 9);
        enough.store(2, 9);
        without(enough, 3, 1);
        DUE.is("change() to 9 of 9", enough.change(), 1);
        DUE.table("change() to 9 of 9", enough, 0, 3, 2);
        changeBehindTheGap(5, 4);
        changeBehindTheGap(6, 3);
    }

    /** DISH 3 was SERVED so many DAYS and one before; then 1 is lost. */
    private static void changeBehindTheGap(int days, int want) {
        KitchenBell b = ofKinds(0, 1, 0, 1, 1);
        b.choose(3);
        b.lay();
        b.serve();
        b.day(days);
        without(b, 3, 1);
        DUE.is("change() " + (days + 1) + " DAYS later", b.change(), 1);
        DUE.table("change() " + (days + 1) + " DAYS later", b, 0, want, 2);
    }

    private static void changeAsksEachAlone() {
        KitchenBell b = ofKinds(0, 1, 0, 1);
        b.needs(0, 0, 5);
        b.needs(3, 0, 5);
        b.store(0, 5);
        without(b, 3, 1);
        DUE.is("change() to what NEEDS more together", b.change(), 1);
        DUE.table("change() to what NEEDS more together", b, 0, 3, 2);
        DUE.is("serve() of it", b.serve(), -3);
        b.store(0, 5);
        DUE.is("serve() of it with more in store", b.serve(), 3);
    }

    // "THE TABLE is as told then, and the CHOSEN ones are those there, by PLACES"
    private static void changeMakesThoseThereTheChosenOnes() {
        KitchenBell b = ofKinds(0, 1, 0, 1);
        b.choose(2);
        b.choose(1);
        b.choose(0);
        b.lay();
        DUE.is("change() of none", b.change(), 0);
        int[] turns = {0, 1, 2, -2};
        for (int dish = 0; dish < 4; dish++) {
            DUE.is("look(" + dish + ", 8), by PLACES", b.look(dish, 8), turns[dish]);
        }
        b.needs(1, 6, 1);
        DUE.is("change() of one", b.change(), 1);
        int[] then = {0, -2, 2, 1};
        for (int dish = 0; dish < 4; dish++) {
            DUE.is("look(" + dish + ", 8), one changed", b.look(dish, 8), then[dish]);
        }
        DUE.is("count(1)", b.count(1), 3);
        DUE.is("count(5)", b.count(5), 1);
        DUE.is("leave(1), not there any more", b.leave(1), -3);
        DUE.is("choose(3), there now", b.choose(3), -3);
        Refusals kept = new Refusals(DUE, "(CHOSEN backwards, none CAN be)", () -> {
            KitchenBell c = ofKinds(0, 1, 0);
            for (int dish = 2; dish >= 0; dish--) {
                c.choose(dish);
            }
            c.lay();
            c.needs(0, 6, 1);
            return c;
        });
        kept.refused("change()", -4, KitchenBell::change);
        kept.taken("look(2, 8) after it", 0, c -> c.change() == -4 ? c.look(2, 8) : -9);
    }

    private static void changeAmongTwenty() {
        FULL.taken("change()", 0, KitchenBell::change);
        KitchenBell b = Kitchens.full();
        for (int dish = 0; dish < 19; dish++) {
            b.needs(dish, 6, dish > 0 ? 0 : 1);
        }
        for (int dish = 9; dish < 19; dish++) {
            b.needs(dish, 6, 1);
        }
        // the KINDS are 0 to 4 in turn: of those CHOSEN 0 is lost, and 19 (GILDED) is all that there is
        DUE.is("change() to the last DISH", b.change(), 1);
        DUE.is("place(0)", b.place(0), 19);
        DUE.is("look(0, 8)", b.look(0, 8), -2);
        DUE.is("look(19, 8)", b.look(19, 8), 0);
    }

    // serve: "-3: there is no TABLE"
    private static void serveWithoutATable() {
        EMPTY.refused("serve()", -3, KitchenBell::serve);
        new Refusals(DUE, "(9 CHOSEN)", () -> Kitchens.chosen(9)).refused("serve()", -3, KitchenBell::serve);
        Refusals again = new Refusals(DUE, "(SERVED)", () -> {
            KitchenBell b = Kitchens.laid(2);
            b.serve();
            return b;
        });
        again.refused("serve()", -3, KitchenBell::serve);
    }

    private static void serveTheEmptyTable() {
        KitchenBell b = new KitchenBell();
        b.lay();
        DUE.is("serve() of none", b.serve(), 0);
        DUE.is("count(3)", b.count(3), 1);
        DUE.is("count(5)", b.count(5), 0);
        DUE.is("serve() again", b.serve(), -3);
        DUE.is("count(3)", b.count(3), 1);
    }

    // "how many DISHES"
    private static void serveOneAndNine() {
        for (int n = 1; n <= 9; n++) {
            KitchenBell b = Kitchens.laid(n);
            DUE.is("serve() of " + n, b.serve(), n);
            DUE.is("count(1)", b.count(1), 0);
            DUE.is("count(3)", b.count(3), 1);
            for (int dish = 0; dish < 10; dish++) {
                DUE.is("look(" + dish + ", 6)", b.look(dish, 6), dish < n ? 0 : -2);
                DUE.is("look(" + dish + ", 8)", b.look(dish, 8), -2);
            }
        }
    }

    /** Nine laid, each of which NEEDS 9 of a GOOD; so much of it is there. */
    private static KitchenBell hungry(int good, int stock) {
        KitchenBell b = Kitchens.chosen(0);
        b.store(good, stock);
        for (int dish = 0; dish < 9; dish++) {
            b.needs(dish, good, 9);
            b.choose(dish);
        }
        b.lay();
        return b;
    }

    // "what its DISHES NEED goes from the stores"
    private static void serveTheLastOfTheStores() {
        for (int good = 0; good < 8; good++) {
            KitchenBell b = hungry(good, 81);
            b.store((good + 1) % 8, 5);
            DUE.is("serve() of all there is", b.serve(), 9);
            DUE.is("good(-1, " + good + ")", b.good(-1, good), 0);
            DUE.is("good(-1), another", b.good(-1, (good + 1) % 8), 5);
            DUE.is("good(0, " + good + ") stays", b.good(0, good), 9);
        }
        KitchenBell more = hungry(0, 82);
        DUE.is("serve() of one less", more.serve(), 9);
        DUE.is("good(-1, 0)", more.good(-1, 0), 1);
    }

    // "all together NEED more than there is"
    private static void serveMoreThanThereIs() {
        for (int g = 0; g < 8; g++) {
            int good = g;
            Refusals scant = new Refusals(DUE, "(80 of 81 in store)", () -> hungry(good, 80));
            scant.refused("serve()", -3, KitchenBell::serve);
            scant.taken("change(): each CAN be", 0, KitchenBell::change);
            scant.taken("serve() with one more", 9, b -> b.store(good, 1) == 81 ? b.serve() : -9);
        }
    }

    // "or one CAN not be"
    private static void serveOneThatCanNotBe() {
        for (int d = 0; d < 9; d++) {
            int dish = d;
            Refusals failed = new Refusals(DUE, "(what " + d + " NEEDS FAILED)", () -> {
                KitchenBell b = Kitchens.laid(9);
                b.store(4, 9);
                b.needs(dish, 4, 1);
                b.fail(4, true);
                return b;
            });
            failed.refused("serve()", -3, KitchenBell::serve);
            failed.taken("serve(), not FAILED any more", 9, b -> b.fail(4, false) == 1 ? b.serve() : -9);
        }
        Refusals soon = new Refusals(DUE, "(SERVED, and the GAP longer since)", () -> {
            KitchenBell b = Kitchens.laid(1);
            b.serve();
            b.gap(1);
            b.choose(0);
            b.choose(1);
            b.lay();
            b.gap(2);
            return b;
        });
        soon.refused("serve()", -3, KitchenBell::serve);
        soon.taken("serve() a DAY later", 2, b -> b.day(1) == 2 ? b.serve() : -9);
        soon.taken("serve() with the GAP before", 2, b -> b.gap(1) == 2 ? b.serve() : -9);
        Refusals other = new Refusals(DUE, "(one not CHOSEN CAN not be)", () -> {
            KitchenBell b = Kitchens.laid(2);
            b.needs(2, 4, 1);
            return b;
        });
        other.taken("serve()", 2, KitchenBell::serve);
    }

    // "THE DAY is one more"; SERVED on the DAY before
    private static void serveOnTheFirstDays() {
        KitchenBell b = Kitchens.laid(1);
        DUE.is("serve() on DAY 0", b.serve(), 1);
        DUE.is("look(0, 6)", b.look(0, 6), 0);
        b.choose(1);
        b.lay();
        DUE.is("serve() on DAY 1", b.serve(), 1);
        DUE.is("look(1, 6)", b.look(1, 6), 1);
        DUE.is("look(0, 6)", b.look(0, 6), 0);
        DUE.is("count(3)", b.count(3), 2);
    }

    // "-2: THE DAY", ahead of -3: 1000 calls lead there at the least, more than are promised
    private static void serveOnTheLastDay() {
        KitchenBell b = Kitchens.laid(2);
        for (int n = 0; n < 999; n++) {
            b.day(100);
        }
        b.day(99);
        DUE.is("serve() on the last DAY but one", b.serve(), 2);
        DUE.is("count(3)", b.count(3), 100000);
        DUE.is("serve() on the last DAY, no TABLE", b.serve(), -2);
        b.choose(2);
        DUE.is("choose(3)", b.choose(3), 2);
        b.lay();
        DUE.is("serve() on the last DAY", b.serve(), -2);
        DUE.is("count(1)", b.count(1), 2);
        DUE.is("count(3)", b.count(3), 100000);
        DUE.is("count(5)", b.count(5), 1);
        DUE.is("look(3, 6)", b.look(3, 6), -2);
    }

    private static void servedAndChosenAgain() {
        KitchenBell b = Kitchens.laid(9);
        b.gap(0);
        b.serve();
        for (int dish = 8; dish >= 0; dish--) {
            DUE.is("choose(" + dish + ")", b.choose(dish), 9 - dish);
        }
        DUE.is("choose(9)", b.choose(9), -2);
        DUE.is("lay()", b.lay(), 9);
        DUE.is("serve()", b.serve(), 9);
        DUE.is("look(8, 6)", b.look(8, 6), 1);
        BUSY.taken("serve()", 5, KitchenBell::serve);
        FULL.taken("serve()", 9, KitchenBell::serve);
    }
}
