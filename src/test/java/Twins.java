import java.util.ArrayList;
import java.util.List;
import java.util.function.Supplier;

/**
 * Two objects with the same calls behind them. One is asked one thing more;
 * then both are asked the same, and what it changed is seen.
 */
final class Twins {
    /** At most so many ACTS are taken back, so that an object is not used for more than 512 calls. */
    private static final int BACK = 5;

    /** A call with its answer, a boolean as 1 or 0. */
    interface Call {
        long on(BetterThieves x);
    }

    private final BetterThieves x;
    private final List<String> rows = new ArrayList<>();

    private Twins(BetterThieves x) {
        this.x = x;
    }

    /** It answers so, and changes nothing. */
    static void unchanged(String name, Supplier<BetterThieves> made, Call call, long want) {
        compare(name, made, call, want, true);
    }

    /** It answers so, and changes nothing but what lies there, which is nothing then. */
    static void onlyCleared(String name, Supplier<BetterThieves> made, Call call, long want) {
        compare(name, made, call, want, false);
        BetterThieves x = made.get();
        call.on(x);
        Due.lies(name, x);
    }

    /** It changes nothing but what lies there. */
    static void onlyLays(String name, Supplier<BetterThieves> made, Call call, long want) {
        compare(name, made, call, want, false);
    }

    private static void compare(String name, Supplier<BetterThieves> made, Call call, long want, boolean laid) {
        BetterThieves one = made.get();
        Due.is(name, call.on(one), want);
        alike(name + " changes nothing", one, made.get(), laid);
    }

    /** Both are the same to the eye. */
    static void alike(String name, BetterThieves one, BetterThieves other, boolean laid) {
        List<String> got = trace(one, laid);
        List<String> due = trace(other, laid);
        int same = 0;
        while (same < due.size() && same < got.size() && due.get(same).equals(got.get(same))) {
            same++;
        }
        boolean alike = same == due.size() && same == got.size();
        String where = alike ? "" : ", but " + (same < got.size() ? got.get(same) : "an end") + " for "
                + (same < due.size() ? due.get(same) : "an end");
        Due.is(name + where, alike, true);
    }

    private static List<String> trace(BetterThieves x, boolean laid) {
        Twins t = new Twins(x);
        t.numbers(laid);
        t.holdings();
        t.spans();
        t.acts();
        t.boxes();
        t.reports();
        t.tape();
        return t.rows;
    }

    private void row(String call, long answer) {
        rows.add(call + " = " + answer);
    }

    private void row(String call, boolean answer) {
        row(call, answer ? 1 : 0);
    }

    private void numbers(boolean laid) {
        for (int i = 0; i < (laid ? 16 : 15); i++) {
            row("about(" + i + ")", x.about(i));
        }
        for (int i = 0; laid && i < x.about(15); i++) {
            row("lies(" + i + ")", x.lies(i));
        }
        row("fault(0)", x.fault(0));
        row("fault(1)", x.fault(1));
    }

    private void holdings() {
        for (int t = 0; t < x.about(0); t++) {
            for (int what = 0; what < 5; what++) {
                row("thing(" + t + ", " + what + ")", x.thing(t, what));
            }
            for (int h = 0; h < x.about(1); h++) {
                row("worth(" + t + ", " + h + ", false)", x.worth(t, h, false));
            }
            for (int p = 0; p < x.about(2); p++) {
                row("worth(" + t + ", " + p + ", true)", x.worth(t, p, true));
            }
        }
        for (int p = 0; p < x.about(2); p++) {
            for (int what = 0; what < 3; what++) {
                row("thief(" + p + ", " + what + ")", x.thief(p, what));
            }
            row("swaps(" + p + ")", x.swaps(p));
        }
        now("now");
    }

    private void now(String when) {
        for (int h = 0; h < x.about(1); h++) {
            row(when + ", has(" + h + ", false)", x.has(h, false));
        }
        for (int p = 0; p < x.about(2); p++) {
            row(when + ", has(" + p + ", true)", x.has(p, true));
        }
        for (int what = 4; what <= 10; what++) {
            row(when + ", about(" + what + ")", what == 6 ? 0 : x.about(what));
        }
    }

    private void spans() {
        int time = x.about(12);
        for (int h = 0; h < x.about(1); h++) {
            for (int t = 0; t < x.about(0); t++) {
                row("span(" + h + ", " + t + ", 0, now)", x.span(h, t, 0, time));
                row("span(" + h + ", " + t + ", 1, 0)", x.span(h, t, 1, 0));
            }
        }
    }

    private void acts() {
        int undone = 0;
        while (undone < BACK && x.undo()) {
            undone++;
            now("undo " + undone);
        }
        row("undone", undone);
        int redone = 0;
        while (redone < 2 * BACK && x.redo()) {
            redone++;
        }
        row("redone", redone);
        now("redone");
    }

    private void boxes() {
        for (int box = 0; box < 3; box++) {
            row("back(" + box + ")", x.back(box));
            now("back " + box);
        }
    }

    private void reports() {
        int count = x.about(11);
        for (int i = 0; i <= count && i < 3; i++) {
            row("untell(" + i + ")", x.untell(i));
        }
        row("report", x.report(0, 0, 1, 0, true));
        row("later(0)", x.later(0));
    }

    private void tape() {
        row("feed", x.feed(0x20202020, 0x20202020, 0x20202020, 0x20202020, 0x20202020));
        row("city", x.city());
        row("fault(0)", x.fault(0));
        row("fault(1)", x.fault(1));
        row("KINDS then", x.about(3));
    }

    /**
     * HOUR 2 of NIGHT 0, one in JAIL, a CRIME; two ACTS to be undone, one to be
     * redone; BOXES 0 and 2 full, two REPORTS, TIME 3, 20 bytes on the TAPE,
     * three numbers lie there. HOUSE 0 has THING 0, THIEF 0 has 1, 2 and 4,
     * THING 3 is nowhere.
     */
    static BetterThieves busy() {
        BetterThieves x = Due.city("night 3;kind a;kind b;thing u of a weight 1 worth 5;thing v of b weight 2 worth 7;"
                + "thing w of a weight 3 worth 9;thing n of b weight 1 worth 1;thing m of a weight 1 worth 50;"
                + "house h lock 1 watch 1 has u;house g lock 2 has w;thief p sack 9 skill 0 has v has m;"
                + "thief q sack 9 skill 1;dear u to p 20;law left>taken;");
        x.report(0, 0, 1, 0, true);
        x.later(3);
        x.report(1, 2, 1, 1, false);
        x.untell(0);
        x.image(0);
        x.theft(0, 1, 4, 0);
        x.theft(1, 0, 1, 0);
        x.image(2);
        x.gift(3, 0, true);
        x.undo();
        Due.feed(x, "kind z;kind y;      ");
        x.best(0);
        return x;
    }
}
