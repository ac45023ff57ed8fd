/** Promises 24 to 29: officers, leavings and counts. */
public final class LeavingsTest {
    private static final Due DUE = new Due();

    public static void main(String[] args) {
        officersCome();
        leavingsAreLeft();
        theyEatByRank();
        theyEatByRight();
        rightsAreToTheVeryKinds();
        eatingGoes();
        theLastOne();
        counts();
        DUE.end();
    }

    private static KitchenBell kinds() {
        KitchenBell b = new KitchenBell();
        for (int kind = 0; kind < 5; kind++) {
            b.dish(10 * kind, 1, 11, 1);
        }
        return b;
    }

    // Promise 24
    private static void officersCome() {
        KitchenBell b = new KitchenBell();
        DUE.is("officer(0, 0, 0)", b.officer(0, 0, 0), 0);
        DUE.is("officer(9, 50, 31)", b.officer(9, 50, 31), 1);
        int[][] wrong = {{-1, 1, 1}, {10, 1, 1}, {1, -1, 1}, {1, 51, 1}, {1, 1, -1}, {1, 1, 32},
            {Integer.MIN_VALUE, 1, 1}, {1, Integer.MAX_VALUE, 1}, {1, 1, Integer.MIN_VALUE}};
        for (int[] w : wrong) {
            DUE.is("officer(" + w[0] + ", " + w[1] + ", " + w[2] + ")", b.officer(w[0], w[1], w[2]), -1);
        }
        for (int n = 2; n < 8; n++) {
            DUE.is("officer, the number", b.officer(5, 5, 5), n);
        }
        DUE.is("officer, the ninth", b.officer(5, 5, 5), -2);
        DUE.is("officer, a wrong ninth", b.officer(10, 5, 5), -1);
        DUE.is("count(2)", b.count(2), 8);
    }

    // Promise 25
    private static void leavingsAreLeft() {
        KitchenBell b = kinds();
        DUE.is("left(0, 1)", b.left(0, 1), 1);
        DUE.is("left(0, 98)", b.left(0, 98), 99);
        DUE.is("left(0, 1) above 99", b.left(0, 1), -2);
        DUE.is("left(0, 100) above 99", b.left(0, 100), -1);
        DUE.is("left(1, 99)", b.left(1, 99), 99);
        DUE.is("left(2, 0)", b.left(2, 0), -1);
        DUE.is("left(2, -1)", b.left(2, -1), -1);
        DUE.is("left(2, 100)", b.left(2, 100), -1);
        DUE.is("left(5, 1)", b.left(5, 1), -1);
        DUE.is("left(-1, 1)", b.left(-1, 1), -1);
        DUE.is("count(6)", b.count(6), 198);
    }

    // Promise 26
    private static void theyEatByRank() {
        KitchenBell b = kinds();
        b.left(0, 20);
        b.officer(5, 8, 1);
        b.officer(2, 9, 1);
        b.officer(5, 2, 1);
        b.officer(0, 7, 1);
        int[] has = {4, 9, 0, 7};
        for (int o = 0; o < 4; o++) {
            DUE.is("eats(" + o + ", 0)", b.eats(o, 0), has[o]);
            DUE.is("eats(" + o + ", -1)", b.eats(o, -1), has[o]);
            DUE.is("eats(" + o + ", 1)", b.eats(o, 1), 0);
        }
        DUE.is("eats(4, 0)", b.eats(4, 0), -1);
        DUE.is("eats(-1, 0)", b.eats(-1, 0), -1);
        DUE.is("eats(0, 5)", b.eats(0, 5), -1);
        DUE.is("eats(0, -2)", b.eats(0, -2), -1);
        DUE.is("count(6): of a mind only", b.count(6), 20);
        KitchenBell three = kinds();
        three.left(0, 6);
        three.officer(3, 4, 1);
        three.officer(1, 4, 1);
        three.officer(2, 4, 1);
        DUE.is("eats(0, -1) of three", three.eats(0, -1), 0);
        DUE.is("eats(1, -1) of three", three.eats(1, -1), 4);
        DUE.is("eats(2, -1) of three", three.eats(2, -1), 2);
        DUE.is("last() of three", three.last(), 2);
        DUE.is("eats(0, -1), no officers", kinds().eats(0, -1), -1);
    }

    private static void theyEatByRight() {
        KitchenBell b = kinds();
        for (int dish = 0; dish < 5; dish++) {
            b.left(dish, 10);
        }
        b.officer(1, 15, 9);
        b.officer(2, 50, 31);
        b.officer(3, 50, 6);
        int[][] has = {{10, 0, 0, 5, 0}, {0, 10, 10, 5, 10}, {0, 0, 0, 0, 0}};
        int[] all = {15, 35, 0};
        for (int o = 0; o < 3; o++) {
            for (int dish = 0; dish < 5; dish++) {
                DUE.is("eats(" + o + ", " + dish + ")", b.eats(o, dish), has[o][dish]);
            }
            DUE.is("eats(" + o + ", -1)", b.eats(o, -1), all[o]);
        }
    }

    private static void rightsAreToTheVeryKinds() {
        for (int kind = 0; kind < 5; kind++) {
            KitchenBell b = kinds();
            b.officer(0, 50, 1 << kind);
            for (int dish = 0; dish < 5; dish++) {
                b.left(dish, 3);
            }
            for (int dish = 0; dish < 5; dish++) {
                DUE.is("right to KIND " + kind + ", eats(0, " + dish + ")", b.eats(0, dish), dish == kind ? 3 : 0);
            }
        }
    }

    // Promise 27
    private static void eatingGoes() {
        KitchenBell b = kinds();
        DUE.is("eat() of nothing", b.eat(), 0);
        b.left(0, 20);
        b.left(1, 30);
        DUE.is("eat() without officers", b.eat(), 50);
        b.officer(0, 12, 3);
        b.officer(0, 25, 2);
        DUE.is("eat()", b.eat(), 13);
        DUE.is("eats(0, -1) after", b.eats(0, -1), 12);
        DUE.is("left(0, 91) after", b.left(0, 91), 99);
        DUE.is("left(1, 1) after", b.left(1, 1), 6);
        DUE.is("eat() again", b.eat(), 87);
        DUE.is("count(6)", b.count(6), 87);
        DUE.is("left(1, 1), all gone", b.left(1, 1), 1);
    }

    // Promise 28
    private static void theLastOne() {
        KitchenBell b = kinds();
        DUE.is("last() of none", b.last(), -2);
        b.officer(5, 10, 1);
        b.officer(1, 10, 3);
        b.officer(5, 10, 2);
        b.officer(9, 0, 31);
        DUE.is("last(), nothing left", b.last(), -2);
        b.left(0, 10);
        DUE.is("last(), one eats all", b.last(), 1);
        b.left(0, 1);
        DUE.is("last(), two eat", b.last(), 0);
        b.left(1, 1);
        DUE.is("last(), of like rank by numbers", b.last(), 2);
        b.left(2, 9);
        DUE.is("last(), no appetite", b.last(), 2);
        b.officer(0, 50, 1);
        DUE.is("last(), another before all", b.last(), 1);
        DUE.is("count(6): of a mind only", b.count(6), 21);
    }

    // Promise 29
    private static void counts() {
        KitchenBell b = kinds();
        b.officer(1, 1, 1);
        b.officer(1, 1, 1);
        b.day(12);
        b.gap(9);
        b.needs(0, 0, 1);
        b.choose(1);
        b.choose(2);
        b.choose(4);
        b.left(1, 2);
        b.left(3, 5);
        b.lay();
        int[] want = {5, 3, 2, 12, 9, 1, 7, 4};
        for (int what = 0; what < 8; what++) {
            DUE.is("count(" + what + ")", b.count(what), want[what]);
        }
        DUE.is("count(8)", b.count(8), -1);
        DUE.is("count(-1)", b.count(-1), -1);
        DUE.is("count(max)", b.count(Integer.MAX_VALUE), -1);
        b.serve();
        int[] after = {5, 0, 2, 13, 9, 0, 7, 1};
        for (int what = 0; what < 8; what++) {
            DUE.is("count(" + what + ") after serve()", b.count(what), after[what]);
        }
    }
}
