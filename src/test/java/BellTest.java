/** Promises 18 to 23: the bell. */
public final class BellTest {
    private static final Due DUE = new Due();

    public static void main(String[] args) {
        having();
        firingByAnOrder();
        ordersThatAreNone();
        firesAndHands();
        ovensCool();
        ovensCoolBackwards();
        gapsThatAreTooShort();
        upToFortyEightTicks();
        theLeastOrder();
        moreThanSix();
        nine();
        firedIsOfTheLatest();
        nothingToFire();
        DUE.end();
    }

    private static int order(int... dishes) {
        int told = 0;
        for (int turn = 0; turn < dishes.length; turn++) {
            told |= dishes[turn] << 5 * turn;
        }
        return told;
    }

    private static void come(KitchenBell b, int kind, int fire, int heat) {
        b.choose(b.dish(10 * kind, 1, fire, heat));
    }

    private static void fired(KitchenBell b, int dish, int e, int which, int turn) {
        DUE.is("fired(" + dish + ", 0)", b.fired(dish, 0), e);
        DUE.is("fired(" + dish + ", 1)", b.fired(dish, 1), which);
        DUE.is("fired(" + dish + ", 2)", b.fired(dish, 2), turn);
    }

    // Promise 18
    private static void having() {
        KitchenBell b = new KitchenBell();
        int[] first = {1, 1, 1, 4, 2};
        int[] least = {0, 0, 0, 1, 0};
        int[] most = {3, 3, 3, 9, 12};
        for (int what = 0; what < 5; what++) {
            DUE.is("have(" + what + ", most)", b.have(what, most[what]), first[what]);
            DUE.is("have(" + what + ", above)", b.have(what, most[what] + 1), -1);
            DUE.is("have(" + what + ", below)", b.have(what, least[what] - 1), -1);
            DUE.is("have(" + what + ", least)", b.have(what, least[what]), most[what]);
            DUE.is("have(" + what + ", least) again", b.have(what, least[what]), least[what]);
        }
        DUE.is("have(5, 1)", b.have(5, 1), -1);
        DUE.is("have(-1, 1)", b.have(-1, 1), -1);
    }

    // Promise 19
    private static void firingByAnOrder() {
        KitchenBell b = new KitchenBell();
        come(b, 1, 52, 0);
        come(b, 0, 0, 0);
        come(b, 1, 21, 0);
        DUE.is("fire: the long one first", b.fire(order(0, 2)), 1);
        fired(b, 0, 0, 0, 0);
        fired(b, 2, 5, 0, 1);
        DUE.is("waits()", b.waits(), 5);
        DUE.is("fire: the short one first", b.fire(order(2, 0)), 0);
        fired(b, 2, 0, 0, 0);
        fired(b, 0, 2, 0, 1);
        DUE.is("waits()", b.waits(), 2);
        b.have(4, 1);
        DUE.is("fire: less warm", b.fire(order(2, 0)), 1);
        b.have(4, 12);
        DUE.is("fire: long warm", b.fire(order(0, 2)), 0);
        b.have(4, 5);
        DUE.is("fire: as warm as it is ahead", b.fire(order(0, 2)), 0);
        b.have(4, 4);
        DUE.is("fire: a tick less", b.fire(order(0, 2)), 1);
    }

    private static void ordersThatAreNone() {
        KitchenBell b = new KitchenBell();
        b.dish(10, 1, 11, 0);
        b.dish(20, 1, 11, 0);
        b.dish(0, 1, 0, 0);
        b.dish(10, 1, 11, 0);
        b.choose(0);
        b.choose(1);
        b.choose(2);
        DUE.is("fire of a COLD one", b.fire(order(0, 2)), -1);
        DUE.is("fire of one not CHOSEN", b.fire(order(0, 3)), -1);
        DUE.is("fire of one twice", b.fire(order(1, 1)), -1);
        DUE.is("fire of one that is none", b.fire(order(1, 31)), -1);
        DUE.is("fire of one digit beyond", b.fire(order(0, 1, 1)), -1);
        DUE.is("fire of a digit far beyond", b.fire(order(0, 1) | 1 << 30), -1);
        DUE.is("fire below 0", b.fire(order(0, 1) | 1 << 31), -1);
        DUE.is("fire(-1)", b.fire(-1), -1);
        DUE.is("waits() after refusals", b.waits(), -3);
        DUE.is("fire of all", b.fire(order(1, 0)), 0);
        DUE.is("fire of too few", b.fire(order(1)), 0);
        DUE.is("fire of the first twice", b.fire(0), -1);
        DUE.is("fired(1, 2) after a refusal", b.fired(1, 2), 0);
        for (int i = 0; i < 4; i++) {
            come(b, 1, 11, 0);
        }
        DUE.is("fire of six", b.fire(order(0, 1, 4, 5, 6, 7)), -4);
        DUE.is("fire of six, not as told", b.fire(-1), -4);
        b.leave(0);
        DUE.is("fire of five", b.fire(order(4, 5, 1, 6, 7)), 1);
        fired(b, 7, 3, 0, 4);
    }

    private static void firesAndHands() {
        KitchenBell b = new KitchenBell();
        come(b, 1, 33, 0);
        come(b, 2, 31, 0);
        come(b, 3, 32, 4);
        come(b, 4, 21, 0);
        // Hands 4: 3 and 1 side by side; the baked one waits for hands; the gilded one takes 3 ticks and 2 hands.
        DUE.is("fire of four kinds", b.fire(order(0, 1, 2, 3)), 2);
        fired(b, 0, 0, 0, 0);
        fired(b, 1, 0, 0, 1);
        fired(b, 2, 3, 0, 2);
        fired(b, 3, 3, 0, 3);
        int[] taken = {4, 4, 4, 4, 4, 4, 0};
        for (int tick = 0; tick < taken.length; tick++) {
            DUE.is("hands(" + tick + ")", b.hands(tick), taken[tick]);
        }
        DUE.is("waits()", b.waits(), 6);
        b.have(3, 2);
        DUE.is("fire with two hands", b.fire(order(0, 1, 2, 3)), 3);
        fired(b, 0, -2, -2, 0);
        fired(b, 1, 0, 0, 1);
        fired(b, 2, 3, 0, 2);
        fired(b, 3, 6, 0, 3);
        DUE.is("waits()", b.waits(), 57);
        b.have(3, 9);
        b.have(0, 0);
        DUE.is("fire without spits", b.fire(order(3, 2, 1, 0)), 2);
        fired(b, 3, -2, -2, 0);
        fired(b, 1, -2, -2, 2);
        fired(b, 0, 0, 0, 3);
        b.have(0, 3);
        DUE.is("fire with three spits", b.fire(order(3, 2, 1, 0)), 0);
        fired(b, 3, 0, 0, 0);
        fired(b, 1, 0, 1, 2);
        // What stands behind a gap that is wide enough goes into it.
        KitchenBell gap = new KitchenBell();
        come(gap, 1, 21, 0);
        come(gap, 2, 23, 0);
        come(gap, 1, 23, 0);
        come(gap, 2, 21, 0);
        DUE.is("fire into a gap", gap.fire(order(0, 1, 2, 3)), 0);
        fired(gap, 1, 0, 0, 1);
        fired(gap, 2, 2, 0, 2);
        fired(gap, 3, 2, 0, 3);
        gap.have(3, 3);
        DUE.is("fire with less hands", gap.fire(order(0, 1, 2, 3)), 1);
        fired(gap, 1, 2, 0, 1);
        fired(gap, 2, 4, 0, 2);
        fired(gap, 3, 0, 0, 3);
    }

    private static void ovensCool() {
        KitchenBell b = new KitchenBell();
        come(b, 3, 21, 5);
        come(b, 3, 21, 7);
        DUE.is("fire: the hotter oven earlier", b.fire(order(0, 1)), 0);
        fired(b, 1, 2, 0, 1);
        DUE.is("fire: the cooler one can't be earlier", b.fire(order(1, 0)), 1);
        fired(b, 0, -2, -2, 1);
        DUE.is("waits()", b.waits(), 48);
        DUE.is("bell() knows", b.bell(), 0);
        fired(b, 0, 0, 0, 0);
        come(b, 3, 21, 5);
        DUE.is("fire: one heat goes on either side", b.fire(order(0, 2, 1)), 1);
        fired(b, 2, 2, 0, 1);
        fired(b, 1, 4, 0, 2);
        DUE.is("fire: between is no room", b.fire(order(0, 1, 2)), 1);
        fired(b, 2, -2, -2, 2);
        b.have(1, 2);
        DUE.is("fire: another oven", b.fire(order(1, 0, 2)), 0);
        fired(b, 1, 0, 0, 0);
        fired(b, 0, 0, 1, 1);
        fired(b, 2, 2, 1, 2);
    }

    /** What is over fire already leaves ticks between itself and the bell. */
    private static void ovensCoolBackwards() {
        KitchenBell cool = new KitchenBell();
        come(cool, 2, 23, 0);
        come(cool, 3, 22, 9);
        come(cool, 3, 21, 1);
        DUE.is("fire: a cooler one nearer to the bell", cool.fire(order(0, 1, 2)), 0);
        fired(cool, 1, 2, 0, 1);
        fired(cool, 2, 0, 0, 2);
        KitchenBell late = new KitchenBell();
        come(late, 2, 13, 0);
        come(late, 3, 12, 9);
        come(late, 3, 11, 1);
        come(late, 3, 21, 1);
        DUE.is("fire: a cooler one at the bell alone", late.fire(order(0, 1, 2, 3)), 1);
        fired(late, 1, 1, 0, 1);
        fired(late, 2, 0, 0, 2);
        fired(late, 3, -2, -2, 3);
        KitchenBell hot = new KitchenBell();
        come(hot, 2, 23, 0);
        come(hot, 3, 12, 1);
        come(hot, 3, 11, 9);
        come(hot, 3, 11, 1);
        DUE.is("fire: a hotter one not nearer", hot.fire(order(0, 1, 2, 3)), 1);
        fired(hot, 1, 2, 0, 1);
        fired(hot, 2, 3, 0, 2);
        fired(hot, 3, 0, 0, 3);
        KitchenBell other = new KitchenBell();
        come(other, 2, 23, 0);
        come(other, 3, 12, 1);
        come(other, 1, 11, 0);
        DUE.is("fire: a stove has no heat", other.fire(order(0, 1, 2)), 0);
        fired(other, 2, 0, 0, 2);
    }

    private static void gapsThatAreTooShort() {
        KitchenBell b = new KitchenBell();
        come(b, 2, 11, 0);
        come(b, 1, 22, 0);
        come(b, 1, 21, 0);
        b.have(3, 2);
        DUE.is("fire: one tick is no two", b.fire(order(0, 1, 2)), 1);
        fired(b, 1, 1, 0, 1);
        fired(b, 2, 3, 0, 2);
        KitchenBell full = new KitchenBell();
        come(full, 1, 23, 0);
        come(full, 1, 23, 0);
        come(full, 1, 23, 0);
        come(full, 2, 21, 0);
        full.have(2, 3);
        full.have(3, 9);
        DUE.is("fire: all of nine hands are taken", full.fire(order(0, 1, 2, 3)), 0);
        fired(full, 2, 0, 2, 2);
        fired(full, 3, 2, 0, 3);
        DUE.is("hands(1)", full.hands(1), 9);
    }

    private static void upToFortyEightTicks() {
        KitchenBell b = new KitchenBell();
        for (int i = 0; i < 5; i++) {
            come(b, 1, 121, 0);
        }
        DUE.is("fire of five long ones", b.fire(order(4, 3, 2, 1, 0)), 4);
        fired(b, 4, 0, 0, 0);
        fired(b, 1, 36, 0, 3);
        fired(b, 0, -2, -2, 4);
        DUE.is("waits()", b.waits(), 120);
        DUE.is("hands(47)", b.hands(47), 1);
        b.leave(0);
        come(b, 1, 11, 0);
        DUE.is("fire of a short one last", b.fire(order(1, 2, 3, 4, 5)), 4);
        fired(b, 5, -2, -2, 4);
        KitchenBell gilded = new KitchenBell();
        for (int i = 0; i < 4; i++) {
            come(gilded, 4, 121, 0);
        }
        DUE.is("fire of four GILDED", gilded.fire(order(0, 1, 2, 3)), 3);
        fired(gilded, 2, 26, 0, 2);
        fired(gilded, 3, -2, -2, 3);
        DUE.is("hands(38)", gilded.hands(38), 2);
        DUE.is("hands(39)", gilded.hands(39), 0);
    }

    // Promise 20
    private static void theLeastOrder() {
        KitchenBell b = new KitchenBell();
        come(b, 1, 31, 0);
        come(b, 1, 31, 0);
        come(b, 1, 31, 0);
        DUE.is("bell() of like ones", b.bell(), 2);
        fired(b, 0, 0, 0, 0);
        fired(b, 1, 3, 0, 1);
        fired(b, 2, 6, 0, 2);
        b.have(4, 3);
        DUE.is("bell() of like ones, warmer", b.bell(), 1);
        come(b, 1, 11, 0);
        // 3 is first for the least sum, not by numbers: 0 + 1 + 4 + 7
        DUE.is("bell() with a short one", b.bell(), 2);
        fired(b, 3, 0, 0, 0);
        fired(b, 0, 1, 0, 1);
        DUE.is("waits()", b.waits(), 12);
        // The fewest that aren't HOT come before the least sum.
        KitchenBell few = new KitchenBell();
        come(few, 2, 31, 0);
        come(few, 1, 11, 0);
        come(few, 2, 23, 0);
        few.have(3, 3);
        DUE.is("fire with the least sum", few.fire(order(0, 1, 2)), 1);
        DUE.is("waits()", few.waits(), 3);
        DUE.is("bell() with all HOT", few.bell(), 0);
        DUE.is("waits()", few.waits(), 4);
        fired(few, 2, 0, 0, 0);
        fired(few, 0, 2, 0, 1);
        fired(few, 1, 2, 0, 2);
        // Orders of one outcome: the least row.
        KitchenBell tie = new KitchenBell();
        tie.choose(tie.dish(10, 1, 11, 0));
        tie.choose(tie.dish(20, 1, 11, 0));
        DUE.is("choose again", tie.choose(0), -3);
        DUE.is("bell() of two that don't meet", tie.bell(), 0);
        fired(tie, 0, 0, 0, 0);
        fired(tie, 1, 0, 0, 1);
        tie.leave(0);
        tie.choose(0);
        DUE.is("bell() in another order of choice", tie.bell(), 0);
        fired(tie, 0, 0, 0, 0);
    }

    private static void moreThanSix() {
        KitchenBell b = new KitchenBell();
        int[] times = {2, 5, 4, 5, 1, 2, 12};
        for (int i = 0; i < 7; i++) {
            come(b, i == 2 ? 4 : 1, times[i] * 10 + 1, 0);
        }
        // By TIME TAKEN: 6 (12), 1 (5), 2 (5, GILDED), 3 (5), 0 (2), 5 (2), 4 (1).
        DUE.is("bell() of seven", b.bell(), 5);
        int[] turns = {4, 1, 2, 3, 6, 5, 0};
        int[] ahead = {22, 12, 0, 17, 26, 24, 0};
        for (int dish = 0; dish < 7; dish++) {
            fired(b, dish, ahead[dish], 0, turns[dish]);
        }
        DUE.is("waits()", b.waits(), 101);
        b.leave(6);
        // Of six all orders: the short ones first; 2 over the spit at once.
        DUE.is("bell() of six", b.bell(), 3);
        int[] turnsOfSix = {2, 4, 0, 5, 1, 3};
        int[] aheadOfSix = {1, 5, 0, 10, 0, 3};
        for (int dish = 0; dish < 6; dish++) {
            fired(b, dish, aheadOfSix[dish], 0, turnsOfSix[dish]);
        }
    }

    private static void nine() {
        KitchenBell b = new KitchenBell();
        for (int i = 0; i < 9; i++) {
            come(b, 1 + i % 3, i < 3 ? 22 : 31, 5);
        }
        // Three rows of 3, 3 and 2 ticks, one for each kind of fires; four hands for one each, not for 2 + 2 + 2.
        DUE.is("bell() of nine", b.bell(), 6);
        for (int i = 3; i < 9; i++) {
            fired(b, i, i < 6 ? 0 : 3, 0, i - 3);
        }
        fired(b, 0, 6, 0, 6);
        fired(b, 1, 6, 0, 7);
        fired(b, 2, 8, 0, 8);
        DUE.is("hands(5)", b.hands(5), 3);
        DUE.is("hands(6)", b.hands(6), 4);
        DUE.is("hands(9)", b.hands(9), 2);
        DUE.is("waits()", b.waits(), 29);
    }

    // Promises 21 to 23
    private static void firedIsOfTheLatest() {
        KitchenBell b = new KitchenBell();
        come(b, 1, 22, 0);
        come(b, 0, 0, 0);
        b.dish(10, 1, 31, 0);
        DUE.is("fired(0, 0), none yet", b.fired(0, 0), -3);
        DUE.is("fired(3, 0), none yet", b.fired(3, 0), -1);
        DUE.is("fired(0, 3), none yet", b.fired(0, 3), -1);
        DUE.is("waits(), none yet", b.waits(), -3);
        DUE.is("hands(0), none yet", b.hands(0), -3);
        DUE.is("hands(48), none yet", b.hands(48), -1);
        b.bell();
        DUE.is("fired(1, 0), COLD", b.fired(1, 0), -3);
        DUE.is("fired(2, 0), not CHOSEN", b.fired(2, 0), -3);
        DUE.is("fired(3, 0), none such", b.fired(3, 0), -1);
        DUE.is("fired(-1, 0)", b.fired(-1, 0), -1);
        DUE.is("fired(0, -1)", b.fired(0, -1), -1);
        DUE.is("fired(0, 3)", b.fired(0, 3), -1);
        DUE.is("fired(1, 3)", b.fired(1, 3), -1);
        b.choose(2);
        b.leave(0);
        b.have(3, 1);
        b.have(4, 0);
        fired(b, 0, 0, 0, 0);
        DUE.is("fired(2, 0), CHOSEN since", b.fired(2, 0), -3);
        DUE.is("hands(0)", b.hands(0), 2);
        DUE.is("hands(1)", b.hands(1), 2);
        DUE.is("hands(2)", b.hands(2), 0);
        DUE.is("hands(47)", b.hands(47), 0);
        DUE.is("hands(-1)", b.hands(-1), -1);
        DUE.is("hands(48)", b.hands(48), -1);
        DUE.is("waits()", b.waits(), 0);
        DUE.is("fire(0), refused", b.fire(0), -1);
        fired(b, 0, 0, 0, 0);
        b.lay();
        b.serve();
        fired(b, 0, 0, 0, 0);
        b.gap(0);
        b.choose(2);
        b.bell();
        DUE.is("fired(0, 0), of an earlier one", b.fired(0, 0), -3);
        fired(b, 2, 0, 0, 0);
    }

    private static void nothingToFire() {
        KitchenBell b = new KitchenBell();
        come(b, 0, 0, 0);
        DUE.is("fire(1) of none", b.fire(1), -1);
        DUE.is("waits(), refused", b.waits(), -3);
        DUE.is("fire(0) of none", b.fire(0), 0);
        DUE.is("waits() of none", b.waits(), 0);
        DUE.is("bell() of none", b.bell(), 0);
        DUE.is("hands(0) of none", b.hands(0), 0);
        DUE.is("fired(0, 0) of none", b.fired(0, 0), -3);
    }
}
