/** "An object is used for at most 512 calls after it has been made": the 512th answers as the first did. */
public final class LongRunTest {
    private static final int CALLS = 512;
    private static final Due DUE = new Due();

    public static void main(String[] args) {
        theLastCallOfLayings();
        theLastCallOfLay();
        theLastCallOfBell();
        theLastCallOfChange();
        theLastCallOfMake();
        theLastCallOfServe();
        DUE.end();
    }

    /** Nine DISHES of one look; all are CHOSEN. */
    private static KitchenBell nine(int... kinds) {
        KitchenBell b = new KitchenBell();
        for (int kind : kinds) {
            b.choose(b.dish(10 * kind, 1, 11, 5));
        }
        return b;
    }

    private static void theLastCallOfLayings() {
        KitchenBell b = nine(0, 1, 2, 3, 4, 0, 1, 2, 3);
        for (int call = 19; call <= CALLS; call++) {
            DUE.is("layings(), call " + call, b.layings(), -5);
        }
    }

    private static void theLastCallOfLay() {
        KitchenBell b = nine(0, 1, 0, 1, 0, 1, 0, 1, 0);
        for (int call = 19; call < CALLS; call += 2) {
            DUE.is("lay(), call " + call, b.lay(), 9);
            DUE.is("swap(0, 8), call " + (call + 1), b.swap(0, 8), 1);
        }
    }

    private static void theLastCallOfBell() {
        KitchenBell b = new KitchenBell();
        b.have(3, 9);
        for (int time = 6; time >= 1; time--) {
            b.choose(b.dish(10, 1, 10 * time + 1, 0));
        }
        for (int call = 14; call < CALLS; call += 2) {
            DUE.is("bell(), call " + call, b.bell(), 4);
            DUE.is("waits(), call " + (call + 1), b.waits(), 35);
        }
    }

    /** Of twenty DISHES: only behind many rows does it show that there is none. */
    private static void theLastCallOfChange() {
        int[] kinds = {1, 3, 3, 0, 3, 3, 2, 0, 3, 3, 0, 2, 2, 3, 0, 2, 1, 2, 1, 1};
        KitchenBell b = new KitchenBell();
        for (int dish = 0; dish < kinds.length; dish++) {
            int colour = dish == 1 || dish == 4 ? 1 : dish == 10 || dish == 16 ? 2 : 0;
            b.dish(10 * kinds[dish] + colour, 1, 11, 5);
        }
        for (int dish : new int[] {14, 5, 16, 1, 12, 15, 17, 4, 10}) {
            b.choose(dish);
        }
        DUE.is("lay()", b.lay() > 0 ? 1 : 0, 1);
        int first = b.place(0);
        b.needs(1, 0, 1);
        b.needs(16, 0, 1);
        for (int call = 34; call < CALLS; call += 2) {
            DUE.is("change(), call " + call, b.change(), -4);
            DUE.is("place(0), call " + (call + 1), b.place(0), first);
        }
    }

    private static void theLastCallOfMake() {
        KitchenBell b = new KitchenBell();
        for (int call = 1; call < CALLS; call += 2) {
            DUE.is("make, call " + call, b.make(call / 2 % 8, 3 + call / 2 % 2, 60), 0);
            DUE.element(b, call / 2 % 8, 59, 0);
        }
    }

    private static void theLastCallOfServe() {
        KitchenBell b = new KitchenBell();
        b.dish(0, 1, 0, 0);
        b.gap(1);
        for (int call = 3; call + 3 <= CALLS; call += 3) {
            DUE.is("choose(0), call " + call, b.choose(0), 1);
            DUE.is("lay(), call " + (call + 1), b.lay(), 1);
            DUE.is("serve(), call " + (call + 2), b.serve(), 1);
        }
        DUE.is("count(3)", b.count(3), 169);
        DUE.is("look(0, 6)", b.look(0, 6), 168);
        DUE.is("look(0, 7), call " + CALLS, b.look(0, 7), 1);
    }
}
