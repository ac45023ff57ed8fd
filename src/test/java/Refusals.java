import java.util.List;
import java.util.function.Function;
import java.util.function.Supplier;

/**
 * Calls at the edges, on kitchens that are made anew for each of them. A refused call has its answer, and
 * changes nothing: all that can be seen afterwards is as with a twin that wasn't asked. Since an object is
 * used for 512 calls at most, each part of it is looked at on an object of its own.
 */
final class Refusals {
    interface Call {
        long on(KitchenBell b);
    }

    interface At {
        long on(KitchenBell b, int n);
    }

    private static final List<Function<KitchenBell, String>> LOOKS = List.of(
            Refusals::counts, Refusals::dishes, Refusals::needs, Refusals::table, Refusals::service,
            Refusals::firing, Refusals::nextFiring, Refusals::leavings, Refusals::shelves);
    private static final List<String> NAMES = List.of(
            "counts", "dishes", "needs", "table", "service", "firing", "nextFiring", "leavings", "shelves");
    private final Due due;
    private final String where;
    private final Supplier<KitchenBell> made;

    Refusals(Due due, String where, Supplier<KitchenBell> made) {
        this.due = due;
        this.where = where;
        this.made = made;
    }

    void refused(String told, int want, Call call) {
        changes(told, want, call);
    }

    /** All that can be seen, but for what is named, is as with a twin that wasn't asked. */
    void changes(String told, long want, Call call, String... changed) {
        String what = told + " " + where;
        if (!NAMES.containsAll(List.of(changed))) {
            throw new IllegalArgumentException("no such look for " + what);
        }
        for (int n = 0; n < LOOKS.size(); n++) {
            KitchenBell asked = made.get();
            due.is(what, call.on(asked), want);
            if (!List.of(changed).contains(NAMES.get(n))) {
                due.same("what is seen after " + what, LOOKS.get(n).apply(asked), LOOKS.get(n).apply(made.get()));
            }
        }
    }

    void taken(String told, int want, Call call) {
        due.is(told + " " + where, call.on(made.get()), want);
    }

    /** Element throws, and changes nothing. */
    void thrown(int d, int i, int want) {
        for (Function<KitchenBell, String> look : LOOKS) {
            KitchenBell asked = made.get();
            due.elementThrows(asked, d, i, want);
            due.same("what is seen after element(" + d + ", " + i + ") " + where, look.apply(asked),
                    look.apply(made.get()));
        }
    }

    /** A number from least to most is taken at either end; beyond them it is -1. */
    void range(String told, int least, int most, At call) {
        for (int n : new int[] {least, most}) {
            long got = call.on(made.get(), n);
            due.is(told + " with n = " + n + " " + where + ": whether it is refused", got == -1 ? 1 : 0, 0);
        }
        for (int n : new int[] {Integer.MIN_VALUE, least - 1, most + 1, Integer.MAX_VALUE}) {
            refused(told + " with n = " + n, -1, b -> call.on(b, n));
        }
    }

    private static String counts(KitchenBell b) {
        StringBuilder seen = new StringBuilder("counts");
        for (int what = 0; what < 8; what++) {
            seen.append(' ').append(b.count(what));
        }
        for (int good = 0; good < 8; good++) {
            seen.append(' ').append(b.good(-1, good)).append(' ').append(b.fail(good, true));
        }
        for (int what = 0; what < 5; what++) {
            seen.append(' ').append(b.have(what, 1));
        }
        return seen.append(' ').append(b.gap(3)).append(' ').append(b.day(1)).toString();
    }

    private static String dishes(KitchenBell b) {
        StringBuilder seen = new StringBuilder("looks");
        for (int dish = 0; dish < 20; dish++) {
            for (int what = 0; what < 9; what++) {
                seen.append(' ').append(b.look(dish, what));
            }
        }
        return seen.append(' ').append(b.dish(0, 1, 0, 0)).toString();
    }

    private static String needs(KitchenBell b) {
        StringBuilder seen = new StringBuilder("needs");
        for (int dish = 0; dish < 20; dish++) {
            for (int good = 0; good < 8; good++) {
                seen.append(' ').append(b.good(dish, good));
            }
        }
        return seen.toString();
    }

    private static void places(KitchenBell b, StringBuilder seen) {
        seen.append(" table ").append(b.count(5)).append(':');
        for (int i = 0; i < 9; i++) {
            seen.append(' ').append(b.place(i));
        }
    }

    private static String table(KitchenBell b) {
        StringBuilder seen = new StringBuilder();
        places(b, seen);
        seen.append(" layings ").append(b.layings()).append(" lay ").append(b.lay());
        places(b, seen);
        return seen.toString();
    }

    private static String service(KitchenBell b) {
        StringBuilder seen = new StringBuilder("change ").append(b.change());
        places(b, seen);
        seen.append(" serve ").append(b.serve());
        for (int what = 0; what < 8; what++) {
            seen.append(' ').append(b.count(what));
        }
        for (int dish = 0; dish < 20; dish++) {
            seen.append(' ').append(b.look(dish, 6));
        }
        return seen.toString();
    }

    private static String firing(KitchenBell b) {
        StringBuilder seen = new StringBuilder("waits ").append(b.waits()).append(" hands");
        for (int tick = 0; tick < 48; tick++) {
            seen.append(' ').append(b.hands(tick));
        }
        seen.append(" fired");
        for (int dish = 0; dish < 20; dish++) {
            for (int what = 0; what < 3; what++) {
                seen.append(' ').append(b.fired(dish, what));
            }
        }
        return seen.toString();
    }

    private static String nextFiring(KitchenBell b) {
        return "bell " + b.bell() + " " + firing(b);
    }

    private static String leavings(KitchenBell b) {
        StringBuilder seen = new StringBuilder("eats");
        for (int officer = 0; officer < 8; officer++) {
            for (int dish = -1; dish < 20; dish++) {
                seen.append(' ').append(b.eats(officer, dish));
            }
        }
        seen.append(" last ").append(b.last()).append(" eat ").append(b.eat()).append(" left");
        for (int dish = 0; dish < 20; dish++) {
            seen.append(' ').append(b.left(dish, 1));
        }
        return seen.append(" officer ").append(b.officer(4, 4, 4)).toString();
    }

    private static String shelves(KitchenBell b) {
        StringBuilder seen = new StringBuilder("shelves");
        for (int d = 0; d < 8; d++) {
            seen.append(" weight ").append(b.weight(d)).append(" toss ").append(b.toss(d)).append(" copies");
            for (int e = 0; e < 8; e++) {
                seen.append(' ').append(b.copy(d, 0, e, 0, 0));
            }
            seen.append(" row").append(row(b, d));
        }
        return seen.toString();
    }

    private static String row(KitchenBell b, int d) {
        StringBuilder seen = new StringBuilder();
        for (int i = 0; i <= 60; i++) {
            try {
                seen.append(' ').append(b.element(d, i));
            } catch (IllegalStateException beyond) {
                return seen.toString();
            }
        }
        return seen.toString();
    }
}
