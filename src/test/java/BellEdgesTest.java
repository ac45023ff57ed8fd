/** The edges of promises 18 to 23, sentence by sentence of the document. */
public final class BellEdgesTest {
    private static final int MIN = Integer.MIN_VALUE;
    private static final int MAX = Integer.MAX_VALUE;
    private static final Due DUE = new Due();
    private static final Refusals EMPTY = new Refusals(DUE, "(nothing there)", KitchenBell::new);
    private static final Refusals BUSY = new Refusals(DUE, "(busy)", Kitchens::busy);
    private static final Refusals FULL = new Refusals(DUE, "(all full)", Kitchens::full);

    public static void main(String[] args) {
        haveWhat();
        haveHowMany();
        haveAtFirst();
        firesFromNoneToThree();
        roastsAndGildedOnesShareTheSpits();
        handsFromOneToNine();
        handsOfGildedOnes();
        aGapThatIsJustWideEnough();
        upToFortyEightTicks();
        upToFortyEightTicksOfGildedOnes();
        whatIsNotDoneTakesNothing();
        warmFromNoneToTwelve();
        ovensByHeatEarlier();
        ovensByHeatLater();
        ovensBetweenTwo();
        fireOfNone();
        fireOfOne();
        fireOfFiveAndNoMore();
        fireByDigits();
        fireByTheHighestDigit();
        bellOfNone();
        bellOfSixAndSeven();
        bellOfNineByNumbers();
        bellByTheFewest();
        bellByTheLeastSum();
        bellByTheLeastRow();
        firedOfWhat();
        firedBeforeAnyFiring();
        firedOfThoseNotInIt();
        waitsAndHandsBeforeAnyFiring();
        handsInWhichTick();
        theLatestStays();
        DUE.end();
    }

    private static int order(int... dishes) {
        int told = 0;
        for (int turn = 0; turn < dishes.length; turn++) {
            told |= dishes[turn] << 5 * turn;
        }
        return told;
    }

    private static void come(KitchenBell b, int kind, int time, int hands, int heat) {
        b.choose(b.dish(10 * kind, 1, 10 * time + hands, heat));
    }

    private static KitchenBell with(int spits, int ovens, int stoves, int hands, int warm) {
        KitchenBell b = new KitchenBell();
        b.have(0, spits);
        b.have(1, ovens);
        b.have(2, stoves);
        b.have(3, hands);
        b.have(4, warm);
        return b;
    }

    private static void fired(KitchenBell b, int dish, int e, int which, int turn) {
        DUE.is("fired(" + dish + ", 0)", b.fired(dish, 0), e);
        DUE.is("fired(" + dish + ", 1)", b.fired(dish, 1), which);
        DUE.is("fired(" + dish + ", 2)", b.fired(dish, 2), turn);
    }

    private static void haveWhat() {
        BUSY.range("have(n, 1)", 0, 4, (b, n) -> b.have(n, 1));
        EMPTY.range("have(n, 3)", 0, 4, (b, n) -> b.have(n, 3));
    }

    // "SPITS, OVENS, STOVES (0 .. 3 of each ..), HANDS in all (1 .. 9 ..), .. WARM, 0 .. 12"
    private static void haveHowMany() {
        for (int w = 0; w < 3; w++) {
            int what = w;
            BUSY.range("have(" + w + ", n)", 0, 3, (b, n) -> b.have(what, n));
        }
        BUSY.range("have(3, n)", 1, 9, (b, n) -> b.have(3, n));
        BUSY.range("have(4, n)", 0, 12, (b, n) -> b.have(4, n));
        // what is taken of one is too much of another
        BUSY.refused("have(0, 9)", -1, b -> b.have(0, 9));
        BUSY.refused("have(3, 12)", -1, b -> b.have(3, 12));
        BUSY.refused("have(5, 13)", -1, b -> b.have(5, 13));
    }

    // "1 at first .. 4 at first .. 2 at first", "the number before"
    private static void haveAtFirst() {
        int[] first = {1, 1, 1, 4, 2};
        int[] least = {0, 0, 0, 1, 0};
        int[] most = {3, 3, 3, 9, 12};
        for (int w = 0; w < 5; w++) {
            int what = w;
            EMPTY.taken("have(" + w + ", 1), the number before", first[w], b -> b.have(what, 1));
            KitchenBell b = new KitchenBell();
            b.have(w, most[w]);
            DUE.is("have(" + w + "), the most before", b.have(w, least[w]), most[w]);
            DUE.is("have(" + w + "), the least before", b.have(w, most[w]), least[w]);
            DUE.is("have((" + w + " + 1) % 5), another", b.have((w + 1) % 5, 1), first[(w + 1) % 5]);
        }
    }

    // "one of its fires, the least that will do"
    private static void firesFromNoneToThree() {
        int[] kinds = {2, 3, 1};
        for (int what = 0; what < 3; what++) {
            for (int many = 0; many <= 3; many++) {
                KitchenBell b = with(0, 0, 0, 9, 0);
                b.have(what, many);
                for (int dish = 0; dish < 5; dish++) {
                    come(b, kinds[what], 1, 1, 5);
                }
                DUE.is("fire over " + many + " of fires " + what, b.fire(order(0, 1, 2, 3, 4)), 5 - many);
                for (int dish = 0; dish < 5; dish++) {
                    int e = many == 0 ? -2 : dish / many;
                    fired(b, dish, e, many == 0 ? -2 : dish % many, dish);
                }
                DUE.is("hands(0)", b.hands(0), many);
            }
        }
    }

    // "GILDED under ROAST", "ROAST under HOT: on a SPIT"
    private static void roastsAndGildedOnesShareTheSpits() {
        KitchenBell b = with(2, 0, 0, 9, 0);
        come(b, 4, 1, 1, 0);
        come(b, 2, 1, 1, 0);
        come(b, 2, 1, 1, 0);
        DUE.is("fire over two spits", b.fire(order(0, 1, 2)), 1);
        fired(b, 0, 0, 0, 0);
        fired(b, 1, 0, 1, 1);
        fired(b, 2, 1, 1, 2);
    }

    // "HANDS TAKEN by all over fire are no more than there are"
    private static void handsFromOneToNine() {
        for (int hands = 1; hands <= 9; hands++) {
            KitchenBell b = with(3, 3, 3, hands, 0);
            // three, three and three hands
            come(b, 1, 2, 3, 0);
            come(b, 2, 2, 3, 0);
            come(b, 3, 2, 3, 1);
            int atOnce = hands / 3;
            DUE.is("fire with " + hands + " hands", b.fire(order(0, 1, 2)), 3 - atOnce);
            for (int dish = 0; dish < 3; dish++) {
                fired(b, dish, atOnce == 0 ? -2 : dish / atOnce * 2, atOnce == 0 ? -2 : 0, dish);
            }
            DUE.is("hands(0) of " + hands, b.hands(0), 3 * atOnce);
            DUE.is("hands(1) of " + hands, b.hands(1), 3 * atOnce);
        }
        KitchenBell nine = with(3, 0, 3, 9, 0);
        come(nine, 1, 2, 3, 0);
        come(nine, 1, 2, 3, 0);
        come(nine, 2, 2, 2, 0);
        come(nine, 2, 2, 1, 0);
        come(nine, 2, 1, 1, 0);
        DUE.is("fire with nine hands taken", nine.fire(order(0, 1, 2, 3, 4)), 1);
        fired(nine, 3, 0, 1, 3);
        fired(nine, 4, 2, 0, 4);
        DUE.is("hands(1), all nine", nine.hands(1), 9);
        KitchenBell one = with(1, 1, 1, 1, 0);
        come(one, 1, 1, 1, 0);
        come(one, 2, 1, 2, 0);
        DUE.is("fire with one hand", one.fire(order(0, 1)), 1);
        fired(one, 0, 0, 0, 0);
        fired(one, 1, -2, -2, 1);
    }

    // "HANDS 1 .. 3 (of GILDED ones one more is TAKEN than told)"
    private static void handsOfGildedOnes() {
        for (int hands = 1; hands <= 9; hands++) {
            KitchenBell b = with(3, 0, 0, hands, 0);
            come(b, 4, 1, 3, 0);
            come(b, 4, 1, 3, 0);
            DUE.is("fire of GILDED ones with " + hands + " hands", b.fire(order(0, 1)), hands < 4 ? 2 : hands < 8 ? 1 : 0);
            DUE.is("hands(0)", b.hands(0), hands < 4 ? 0 : hands < 8 ? 4 : 8);
        }
    }

    // "is free in all of these"
    private static void aGapThatIsJustWideEnough() {
        for (int gap = 1; gap <= 11; gap++) {
            for (int more = 0; more <= 1; more++) {
                KitchenBell b = with(1, 0, 1, 2, 12);
                come(b, 2, gap, 1, 0);
                come(b, 1, 2, 2, 0);
                come(b, 1, gap + more, 1, 0);
                DUE.is("fire beside a gap of " + gap, b.fire(order(0, 1, 2)), gap + 2 > 12 && more == 1 ? 1 : 0);
                fired(b, 1, gap, 0, 1);
                fired(b, 2, more == 0 ? 0 : gap + 2, 0, 2);
            }
        }
    }

    // "If there is no e with e + TIME up to 48 it isn't DONE"
    private static void upToFortyEightTicks() {
        for (int first = 10; first <= 12; first++) {
            for (int last = 10; last <= 12; last++) {
                KitchenBell b = with(0, 0, 1, 4, 12);
                come(b, 1, first, 1, 0);
                come(b, 1, 12, 1, 0);
                come(b, 1, 12, 1, 0);
                come(b, 1, last, 1, 0);
                int used = first + 24 + last;
                come(b, 1, 48 - used + 1, 2, 0);
                DUE.is("fire up to " + used + " ticks", b.fire(order(0, 1, 2, 3, 4)), 3);
                fired(b, 3, first + 24, 0, 3);
                // one tick more than there are
                fired(b, 4, -2, -2, 4);
                DUE.is("waits()", b.waits(), 2 * first + 12 + first + 24 + 48);
                DUE.is("hands(used - 1)", b.hands(used - 1), 1);
                DUE.is("hands(47)", b.hands(47), used == 48 ? 1 : 0);
            }
        }
        KitchenBell full = with(0, 0, 1, 4, 12);
        for (int time : new int[] {12, 12, 12, 11, 1}) {
            come(full, 1, time, 2, 0);
        }
        DUE.is("fire up to the last tick", full.fire(order(0, 1, 2, 3, 4)), 3);
        fired(full, 4, 47, 0, 4);
        DUE.is("hands(47), the last tick", full.hands(47), 2);
        DUE.is("waits()", full.waits(), 12 + 24 + 36 + 47);
    }

    private static void upToFortyEightTicksOfGildedOnes() {
        for (int last = 8; last <= 9; last++) {
            KitchenBell b = with(1, 0, 0, 4, 12);
            come(b, 4, 12, 1, 0);
            come(b, 4, 12, 1, 0);
            come(b, 4, 12, 1, 0);
            come(b, 4, last, 1, 0);
            DUE.is("fire of GILDED ones, " + last + " last", b.fire(order(0, 1, 2, 3)), 3);
            fired(b, 2, 26, 0, 2);
            fired(b, 3, last == 8 ? 39 : -2, last == 8 ? 0 : -2, 3);
            DUE.is("hands(47)", b.hands(47), last == 8 ? 2 : 0);
            DUE.is("waits()", b.waits(), 13 + 26 + (last == 8 ? 39 : 48));
        }
    }

    // "48 for those not DONE"
    private static void whatIsNotDoneTakesNothing() {
        KitchenBell b = with(1, 0, 1, 2, 12);
        come(b, 3, 12, 1, 9);
        come(b, 1, 12, 3, 0);
        come(b, 1, 3, 2, 0);
        DUE.is("fire with two not DONE", b.fire(order(0, 1, 2)), 2);
        fired(b, 0, -2, -2, 0);
        fired(b, 1, -2, -2, 1);
        fired(b, 2, 0, 0, 2);
        DUE.is("waits()", b.waits(), 96);
        DUE.is("hands(0)", b.hands(0), 2);
        DUE.is("hands(3)", b.hands(3), 0);
    }

    // "It is HOT, if it is DONE and e is WARM at most"
    private static void warmFromNoneToTwelve() {
        for (int e = 1; e <= 12; e++) {
            for (int warm = 0; warm <= 12; warm++) {
                KitchenBell b = with(0, 0, 1, 1, warm);
                come(b, 1, e, 1, 0);
                come(b, 1, 12, 1, 0);
                DUE.is("fire, e = " + e + ", WARM " + warm, b.fire(order(0, 1)), e <= warm ? 0 : 1);
                DUE.is("bell(), the better of " + e + " and 12, WARM " + warm, b.bell(), e <= warm ? 0 : 1);
                fired(b, 1, e, 0, 1);
            }
        }
        KitchenBell none = with(0, 0, 0, 1, 12);
        come(none, 1, 1, 1, 0);
        DUE.is("bell(), not DONE, WARM 12", none.bell(), 1);
    }

    // "those later (nearer to THE BELL) in it have no more HEAT than it": the one there is at e = 0
    private static void ovensByHeatEarlier() {
        for (int there = 1; there <= 9; there++) {
            for (int heat = 1; heat <= 9; heat++) {
                KitchenBell b = with(0, 1, 0, 9, 12);
                come(b, 3, 2, 1, there);
                come(b, 3, 1, 1, heat);
                boolean done = heat >= there;
                DUE.is("fire of " + heat + " earlier than " + there, b.fire(order(0, 1)), done ? 0 : 1);
                fired(b, 1, done ? 2 : -2, done ? 0 : -2, 1);
                b.have(1, 2);
                DUE.is("fire with another oven", b.fire(order(0, 1)), 0);
                fired(b, 1, 0, 1, 1);
            }
        }
    }

    // "those earlier no less": the one there leaves ticks 0 and 1
    private static void ovensByHeatLater() {
        for (int there = 1; there <= 9; there++) {
            for (int heat = 1; heat <= 9; heat++) {
                KitchenBell b = with(1, 1, 0, 4, 12);
                come(b, 2, 2, 3, 0);
                come(b, 3, 2, 2, there);
                come(b, 3, 2, 1, heat);
                DUE.is("fire of " + heat + " later than " + there, b.fire(order(0, 1, 2)), 0);
                fired(b, 1, 2, 0, 1);
                fired(b, 2, heat <= there ? 0 : 4, 0, 2);
            }
        }
    }

    private static void ovensBetweenTwo() {
        for (int heat = 1; heat <= 9; heat++) {
            KitchenBell b = with(2, 1, 0, 4, 12);
            // 3 at the bell, 6 from tick 4 on, for hands are short in ticks 2 and 3
            come(b, 3, 2, 1, 3);
            come(b, 2, 4, 3, 0);
            come(b, 3, 1, 2, 6);
            come(b, 3, 2, 1, heat);
            int e = heat < 3 ? -2 : heat <= 6 ? 2 : 5;
            DUE.is("fire of " + heat + " between 3 and 6", b.fire(order(0, 1, 2, 3)), e < 0 ? 1 : 0);
            fired(b, 1, 0, 0, 1);
            fired(b, 2, 4, 0, 2);
            fired(b, 3, e, e < 0 ? -2 : 0, 3);
        }
    }

    // "as many as are CHOSEN and not COLD"
    private static void fireOfNone() {
        EMPTY.taken("fire(0)", 0, b -> b.fire(0));
        EMPTY.refused("fire(1)", -1, b -> b.fire(1));
        EMPTY.refused("fire(-1)", -1, b -> b.fire(-1));
        Refusals cold = new Refusals(DUE, "(nine COLD ones)", () -> {
            KitchenBell b = new KitchenBell();
            for (int dish = 0; dish < 9; dish++) {
                come(b, 0, 1, 1, 0);
            }
            return b;
        });
        cold.taken("fire(0)", 0, b -> b.fire(0));
        cold.refused("fire(1)", -1, b -> b.fire(1));
        cold.refused("fire(32)", -1, b -> b.fire(32));
        cold.taken("waits() after fire(0)", 0, b -> b.fire(0) == 0 ? b.waits() : -9);
    }

    private static void fireOfOne() {
        Refusals one = new Refusals(DUE, "(DISH 3 alone)", () -> {
            KitchenBell b = new KitchenBell();
            for (int dish = 0; dish < 5; dish++) {
                b.dish(10, 1, 11, 0);
            }
            b.choose(3);
            return b;
        });
        one.taken("fire(3)", 0, b -> b.fire(3));
        for (int o : new int[] {0, 1, 2, 4, 5, 19, 20, 31, 3 + 32, 3 + 64, 3 + (3 << 5), 3 | MIN, -1, MIN, MAX}) {
            one.refused("fire(" + o + ")", -1, b -> b.fire(o));
        }
    }

    private static KitchenBell hot(int many) {
        KitchenBell b = with(3, 3, 3, 9, 0);
        for (int dish = 0; dish < many; dish++) {
            come(b, 1 + dish % 3, 1, 1, 1);
        }
        return b;
    }

    // "5 at most", "-4 (ahead of -1): there are more than 5"
    private static void fireOfFiveAndNoMore() {
        Refusals five = new Refusals(DUE, "(five HOT ones)", () -> hot(5));
        five.taken("fire of five", 0, b -> b.fire(order(4, 3, 2, 1, 0)));
        // what isn't told is DISH 0
        five.taken("fire of four", 0, b -> b.fire(order(4, 3, 2, 1)));
        five.refused("fire of four, with 0 among them", -1, b -> b.fire(order(4, 0, 2, 1)));
        Refusals six = new Refusals(DUE, "(six HOT ones)", () -> hot(6));
        six.refused("fire of six", -4, b -> b.fire(order(5, 4, 3, 2, 1, 0)));
        six.refused("fire of five", -4, b -> b.fire(order(5, 4, 3, 2, 1)));
        six.refused("fire(0)", -4, b -> b.fire(0));
        six.refused("fire(-1)", -4, b -> b.fire(-1));
        six.taken("fire of five, one having left", 0, b -> b.leave(0) == 5 ? b.fire(order(5, 4, 3, 2, 1)) : -9);
        Refusals nine = new Refusals(DUE, "(nine HOT ones)", () -> hot(9));
        nine.refused("fire of none such", -4, b -> b.fire(31));
        Refusals cold = new Refusals(DUE, "(five HOT ones and four COLD ones)", () -> {
            KitchenBell b = hot(5);
            for (int dish = 5; dish < 9; dish++) {
                come(b, 0, 1, 1, 0);
            }
            return b;
        });
        cold.taken("fire of five", 0, b -> b.fire(order(0, 1, 2, 3, 4)));
        cold.refused("fire with a COLD one", -1, b -> b.fire(order(0, 1, 2, 3, 5)));
        FULL.refused("fire(0)", -4, b -> b.fire(0));
    }

    // "-1: another DISH, one twice, digits beyond"
    private static void fireByDigits() {
        Refusals five = new Refusals(DUE, "(five of seven HOT ones)", () -> {
            KitchenBell b = hot(7);
            b.leave(5);
            b.leave(6);
            b.bell();
            return b;
        });
        int right = order(0, 1, 2, 3, 4);
        five.taken("fire by the order", 0, b -> b.fire(right));
        for (int turn = 0; turn < 5; turn++) {
            int rest = right & ~(31 << 5 * turn);
            for (int digit : new int[] {5, 6, 7, 20, 31}) {
                int told = rest | digit << 5 * turn;
                five.refused("fire with " + digit + " at " + turn, -1, b -> b.fire(told));
            }
            int twice = rest | (turn == 0 ? 4 : turn - 1) << 5 * turn;
            five.refused("fire with one twice at " + turn, -1, b -> b.fire(twice));
        }
        for (int bit = 25; bit <= 31; bit++) {
            int told = right | 1 << bit;
            five.refused("fire with a digit beyond, bit " + bit, -1, b -> b.fire(told));
        }
    }

    private static void fireByTheHighestDigit() {
        KitchenBell b = with(0, 0, 1, 1, 0);
        for (int dish = 0; dish < 20; dish++) {
            b.dish(10, 1, 11, 0);
        }
        for (int dish = 15; dish < 20; dish++) {
            b.choose(dish);
        }
        DUE.is("fire of the last five", b.fire(order(19, 15, 18, 16, 17)), 4);
        int[] turns = {1, 3, 4, 2, 0};
        for (int dish = 15; dish < 20; dish++) {
            fired(b, dish, turns[dish - 15], 0, turns[dish - 15]);
        }
        DUE.is("fire, the highest order", b.fire(order(15, 16, 17, 18, 19)), 4);
        fired(b, 19, 4, 0, 4);
    }

    private static void bellOfNone() {
        EMPTY.taken("bell()", 0, KitchenBell::bell);
        KitchenBell b = new KitchenBell();
        b.bell();
        DUE.is("waits() of none", b.waits(), 0);
        DUE.is("hands(0) of none", b.hands(0), 0);
        DUE.is("hands(47) of none", b.hands(47), 0);
        DUE.is("fired(0, 0), none such", b.fired(0, 0), -1);
        come(b, 0, 1, 1, 0);
        DUE.is("bell() of COLD ones", b.bell(), 0);
        DUE.is("fired(0, 0), COLD", b.fired(0, 0), -3);
    }

    // "of all ORDERS, for 6 such DISHES at most .. For more of them: the ORDER by TIME TAKEN, the longest first"
    private static void bellOfSixAndSeven() {
        KitchenBell b = with(0, 0, 1, 1, 2);
        for (int time = 6; time >= 1; time--) {
            come(b, 1, time, 1, 0);
        }
        // 1, then 2, then 3 ticks .. : 0 + 1 + 3 + 6 + 10 + 15
        DUE.is("bell() of six", b.bell(), 4);
        DUE.is("waits() of six", b.waits(), 35);
        for (int dish = 0; dish < 6; dish++) {
            DUE.is("fired(" + dish + ", 2)", b.fired(dish, 2), 5 - dish);
        }
        come(b, 0, 1, 1, 0);
        DUE.is("bell() of six and a COLD one", b.bell(), 4);
        DUE.is("waits() of six and a COLD one", b.waits(), 35);
        come(b, 1, 12, 1, 0);
        // 12, then 6, 5, 4, 3, 2, 1
        DUE.is("bell() of seven", b.bell(), 6);
        DUE.is("waits() of seven", b.waits(), 12 + 18 + 23 + 27 + 30 + 32);
        fired(b, 7, 0, 0, 0);
        fired(b, 5, 32, 0, 6);
        b.leave(7);
        DUE.is("bell() of six again", b.bell(), 4);
        DUE.is("waits() of six again", b.waits(), 35);
    }

    // "of like ones by numbers"; TIME TAKEN, not told
    private static void bellOfNineByNumbers() {
        KitchenBell b = with(3, 3, 3, 9, 0);
        int[] kinds = {1, 2, 3, 4, 1, 2, 3, 4, 1};
        int[] times = {5, 6, 6, 5, 4, 5, 12, 12, 1};
        int[] turns = {5, 2, 3, 4, 7, 6, 1, 0, 8};
        for (int dish = 0; dish < 9; dish++) {
            b.dish(10 * kinds[dish], 1, 10 * times[dish] + 1, 5);
        }
        for (int dish = 8; dish >= 0; dish--) {
            b.choose(dish);
        }
        b.bell();
        for (int dish = 0; dish < 9; dish++) {
            DUE.is("fired(" + dish + ", 2) of nine", b.fired(dish, 2), turns[dish]);
        }
    }

    // "that by which the fewest aren't HOT, of these with the least sum of e"
    private static void bellByTheFewest() {
        // over one stove with WARM 2: two of three are HOT if the short one goes first
        KitchenBell b = with(1, 0, 1, 3, 2);
        come(b, 2, 3, 1, 0);
        come(b, 1, 1, 1, 0);
        come(b, 2, 2, 3, 0);
        DUE.is("fire with less e in all", b.fire(order(0, 1, 2)), 1);
        DUE.is("waits()", b.waits(), 3);
        DUE.is("bell()", b.bell(), 0);
        DUE.is("waits() of the fewest", b.waits(), 4);
    }

    private static void bellByTheLeastSum() {
        KitchenBell b = with(0, 0, 1, 1, 0);
        come(b, 1, 3, 1, 0);
        come(b, 1, 2, 1, 0);
        DUE.is("bell(), one not HOT either way", b.bell(), 1);
        DUE.is("waits(), the less", b.waits(), 2);
        fired(b, 1, 0, 0, 0);
        // not DONE counts 48: the one that can't be leaves the sum of the others
        come(b, 2, 1, 1, 0);
        DUE.is("bell() with one not DONE", b.bell(), 2);
        DUE.is("waits() with one not DONE", b.waits(), 50);
    }

    // "of these the least as a row of DISHES"
    private static void bellByTheLeastRow() {
        for (int n = 1; n <= 6; n++) {
            KitchenBell b = with(3, 3, 3, 9, 0);
            for (int dish = 0; dish < 6; dish++) {
                b.dish(10 * (1 + dish % 3), 1, 11, 5);
            }
            for (int dish = n - 1; dish >= 0; dish--) {
                b.choose(dish);
            }
            DUE.is("bell() of " + n + " that don't meet", b.bell(), 0);
            for (int dish = 0; dish < n; dish++) {
                fired(b, dish, 0, dish / 3, dish);
            }
        }
        KitchenBell late = with(0, 0, 1, 1, 0);
        late.dish(10, 1, 21, 0);
        come(late, 1, 1, 1, 0);
        come(late, 1, 2, 1, 0);
        come(late, 1, 1, 1, 0);
        DUE.is("bell(), two like ones ahead", late.bell(), 2);
        fired(late, 1, 0, 0, 0);
        fired(late, 3, 1, 0, 1);
        fired(late, 2, 2, 0, 2);
    }

    // fired: "-1"
    private static void firedOfWhat() {
        BUSY.range("fired(n, 0)", 0, Kitchens.BUSY_DISHES - 1, (b, n) -> b.fired(n, 0));
        BUSY.range("fired(1, n)", 0, 2, (b, n) -> b.fired(1, n));
        BUSY.range("fired(0, n), COLD", 0, 2, (b, n) -> b.fired(0, n));
        EMPTY.refused("fired(0, 0)", -1, b -> b.fired(0, 0));
        EMPTY.refused("fired(-1, 0)", -1, b -> b.fired(-1, 0));
    }

    // "-3: .. or there was none", behind -1
    private static void firedBeforeAnyFiring() {
        Refusals none = new Refusals(DUE, "(not fired yet)", () -> hot(3));
        for (int w = 0; w <= 2; w++) {
            int what = w;
            none.refused("fired(0, " + w + ")", -3, b -> b.fired(0, what));
            none.refused("fired(3, " + w + ")", -1, b -> b.fired(3, what));
            none.refused("fired(-1, " + w + ")", -1, b -> b.fired(-1, what));
        }
        none.refused("fired(0, 3)", -1, b -> b.fired(0, 3));
        none.refused("fired(0, -1)", -1, b -> b.fired(0, -1));
    }

    // "-3: it was not in it", behind -1
    private static void firedOfThoseNotInIt() {
        BUSY.refused("fired(0, 0), COLD", -3, b -> b.fired(0, 0));
        BUSY.refused("fired(0, 2), COLD", -3, b -> b.fired(0, 2));
        BUSY.refused("fired(5, 0), not CHOSEN", -3, b -> b.fired(5, 0));
        BUSY.refused("fired(5, 2), not CHOSEN", -3, b -> b.fired(5, 2));
        BUSY.refused("fired(5, 3), not CHOSEN", -1, b -> b.fired(5, 3));
        BUSY.refused("fired(7, 0), none such", -1, b -> b.fired(7, 0));
        Refusals empty = new Refusals(DUE, "(fired with none)", () -> {
            KitchenBell b = new KitchenBell();
            b.fire(0);
            b.dish(10, 1, 11, 0);
            return b;
        });
        empty.refused("fired(0, 0)", -3, b -> b.fired(0, 0));
        empty.taken("waits()", 0, KitchenBell::waits);
    }

    // waits, hands: "-3: there was none", behind -1
    private static void waitsAndHandsBeforeAnyFiring() {
        for (Refusals none : new Refusals[] {EMPTY, FULL, new Refusals(DUE, "(not fired yet)", () -> hot(3))}) {
            none.refused("waits()", -3, KitchenBell::waits);
            none.refused("hands(0)", -3, b -> b.hands(0));
            none.refused("hands(47)", -3, b -> b.hands(47));
            none.refused("hands(48)", -1, b -> b.hands(48));
            none.refused("hands(-1)", -1, b -> b.hands(-1));
            none.refused("hands(max)", -1, b -> b.hands(MAX));
            none.refused("hands(min)", -1, b -> b.hands(MIN));
        }
    }

    // "HANDS TAKEN in a TICK (0 .. 47)"
    private static void handsInWhichTick() {
        BUSY.range("hands(n)", 0, 47, KitchenBell::hands);
        KitchenBell b = with(1, 0, 1, 9, 0);
        come(b, 1, 12, 3, 0);
        come(b, 4, 12, 3, 0);
        b.fire(order(0, 1));
        for (int tick = 0; tick < 48; tick++) {
            DUE.is("hands(" + tick + ")", b.hands(tick), tick < 12 ? 7 : tick == 12 ? 4 : 0);
        }
    }

    // "by the latest fire(), bell()"
    private static void theLatestStays() {
        KitchenBell b = with(0, 0, 1, 1, 0);
        come(b, 1, 2, 1, 0);
        come(b, 1, 1, 1, 0);
        DUE.is("fire", b.fire(order(0, 1)), 1);
        DUE.is("fire, refused", b.fire(order(0, 0)), -1);
        DUE.is("waits() after a refusal", b.waits(), 2);
        fired(b, 0, 0, 0, 0);
        DUE.is("have(2, 0)", b.have(2, 0), 1);
        DUE.is("waits() after have()", b.waits(), 2);
        b.leave(0);
        b.leave(1);
        fired(b, 1, 2, 0, 1);
        DUE.is("hands(2)", b.hands(2), 1);
        DUE.is("bell() of none", b.bell(), 0);
        DUE.is("fired(1, 0) after bell() of none", b.fired(1, 0), -3);
        DUE.is("waits() after bell() of none", b.waits(), 0);
        b.choose(1);
        DUE.is("bell() without a stove", b.bell(), 1);
        fired(b, 1, -2, -2, 0);
        DUE.is("waits(), not DONE", b.waits(), 48);
    }
}
