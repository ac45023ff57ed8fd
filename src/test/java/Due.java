/** Counts the calls of one test whose answer is the one that is due, and tells those whose is not. */
final class Due {
    static final int ILLEGAL_ARGUMENT = 1;
    static final int ILLEGAL_STATE = 2;
    private int right = 0;
    private int wrong = 0;

    void is(String call, long got, long want) {
        if (got == want) {
            right++;
            return;
        }
        wrong++;
        System.out.println(call + " answered " + got + ", due is " + want);
    }

    void same(String what, String got, String want) {
        if (got.equals(want)) {
            right++;
            return;
        }
        wrong++;
        System.out.println(what + ":\n  " + got + "\nbut due is:\n  " + want);
    }

    void element(KitchenBell bell, int d, int i, long want) {
        String call = "element(" + d + ", " + i + ")";
        try {
            is(call, bell.element(d, i), want);
        } catch (IllegalArgumentException | IllegalStateException thrown) {
            wrong++;
            System.out.println(call + " threw " + thrown + ", due is " + want);
        }
    }

    void elementThrows(KitchenBell bell, int d, int i, int want) {
        int thrown = 0;
        try {
            bell.element(d, i);
        } catch (IllegalArgumentException told) {
            thrown = ILLEGAL_ARGUMENT;
        } catch (IllegalStateException told) {
            thrown = ILLEGAL_STATE;
        }
        is("element(" + d + ", " + i + "): which exception", thrown, want);
    }

    /** Tells TABLE or any row that is asked for place by place. */
    void table(String after, KitchenBell bell, int... want) {
        for (int i = 0; i < want.length; i++) {
            is(after + ", then place(" + i + ")", bell.place(i), want[i]);
        }
        if (want.length < 9) {
            is(after + ", then place(" + want.length + ")", bell.place(want.length), -1);
        }
    }

    void end() {
        System.out.println(right + " answers as due, " + wrong + " not");
        if (wrong != 0 || right == 0) {
            System.exit(1);
        }
    }
}
