/** Every call that is refused answers as the document says and changes nothing; those that only ask do nothing. */
public final class RefusedTest {
    private static final int NONE = BetterThieves.NONE;
    private static final int GAP = BetterThieves.GAP;
    private static final int CANT = -2;

    private RefusedTest() {
    }

    public static void main(String[] args) {
        fixture();
        tape();
        holdings();
        thefts();
        gifts();
        searches();
        rounds();
        reports();
        knowing();
        boxes();
        asking();
        emptyCity();
        Due.finish();
    }

    /** Numbers that nothing has of which there are n (0 .. n - 1); some would be one of them if bits were cut off. */
    private static int[] wrong(int n) {
        return new int[] {-1, CANT, n, n + 1, 31, 32, 33, 64, 255, 256, 65536, 1 << 30, Integer.MIN_VALUE,
            Integer.MIN_VALUE + 1, Integer.MAX_VALUE - 1, Integer.MAX_VALUE, GAP};
    }

    private static void refused(String name, Twins.Call call, long want) {
        Twins.unchanged(name, Twins::busy, call, want);
    }

    private static void cleared(String name, Twins.Call call, long want) {
        Twins.onlyCleared(name, Twins::busy, call, want);
    }

    private static long of(boolean answer) {
        return answer ? 1 : 0;
    }

    private static void fixture() {
        BetterThieves x = Twins.busy();
        int[] want = {5, 2, 2, 2, 0, 2, 3, 2, 1, 2, 1, 2, 3, 20, 2, 3};
        for (int i = 0; i < want.length; i++) {
            Due.is("busy, about(" + i + ")", x.about(i), want[i]);
        }
        Due.is("THINGS of HOUSE 0", x.has(0, false), 1);
        Due.is("THINGS of THIEF 0", x.has(0, true), 22);
        Due.is("THING 3 is nowhere", x.drift(3, 0), -1);
    }

    private static BetterThieves fullTape() {
        BetterThieves x = new BetterThieves();
        Due.feed(x, "kind a;" + " ".repeat(1693));
        return x;
    }

    private static void tape() {
        Due.by("NONE, and nothing comes, if there would be more than 1,700.");
        Twins.unchanged("feed behind 1,700", RefusedTest::fullTape, x -> x.feed(1, 2, 3, 4, 5), NONE);
        Due.by("NONE, doing nothing, if it has not so many, or n is below 0.");
        for (int n : wrong(21)) {
            refused("end(" + n + ")", x -> x.end(n), NONE);
        }
        Due.by("NONE for another what.");
        for (int w : wrong(2)) {
            refused("fault(" + w + ")", x -> x.fault(w), NONE);
        }
        for (int w : wrong(16)) {
            refused("about(" + w + ")", x -> x.about(w), NONE);
        }
    }

    private static void holdings() {
        Due.by("-2 if there is none such, or for another what.");
        for (int w : wrong(5)) {
            refused("thing(" + w + ", 0)", x -> x.thing(w, 0), CANT);
            refused("thing(0, " + w + ")", x -> x.thing(0, w), CANT);
            refused("thing(" + w + ", " + w + ")", x -> x.thing(w, w), CANT);
        }
        Due.by("WORTH of a THING to a HOUSE (false), a THIEF (true); NONE if one can't be.");
        for (int w : wrong(5)) {
            refused("worth(" + w + ", 0, false)", x -> x.worth(w, 0, false), NONE);
            refused("worth(" + w + ", 0, true)", x -> x.worth(w, 0, true), NONE);
        }
        for (int w : wrong(2)) {
            refused("worth(0, " + w + ", false)", x -> x.worth(0, w, false), NONE);
            refused("worth(0, " + w + ", true)", x -> x.worth(0, w, true), NONE);
            refused("has(" + w + ", false)", x -> x.has(w, false), NONE);
            refused("has(" + w + ", true)", x -> x.has(w, true), NONE);
            refused("sum(" + w + ", false)", x -> x.sum(w, false), NONE);
            refused("sum(" + w + ", true)", x -> x.sum(w, true), NONE);
        }
        Due.by("NONE if there is none such, or for another what.");
        for (int w : wrong(2)) {
            refused("thief(" + w + ", 0)", x -> x.thief(w, 0), NONE);
        }
        for (int w : wrong(3)) {
            refused("thief(0, " + w + ")", x -> x.thief(0, w), NONE);
        }
        Due.by("MINUTES that a THEFT of so many THINGS in all takes (1 .. 6); NONE if one can't be.");
        for (int w : wrong(2)) {
            refused("minutes(" + w + ", 0, 1)", x -> x.minutes(w, 0, 1), NONE);
            refused("minutes(0, " + w + ", 1)", x -> x.minutes(0, w, 1), NONE);
        }
        for (int w : wrong(7)) {
            refused("minutes(0, 0, " + w + ")", x -> x.minutes(0, 0, w), NONE);
        }
        refused("minutes(0, 0, 0)", x -> x.minutes(0, 0, 0), NONE);
    }

    private static void thefts() {
        Due.by("NONE, doing nothing, if it CAN't be, or one can't be, or it is NIGHT 200.");
        for (int w : wrong(2)) {
            refused("theft(" + w + ", 0, 1, 2)", x -> x.theft(w, 0, 1, 2), NONE);
            refused("theft(0, " + w + ", 1, 2)", x -> x.theft(0, w, 1, 2), NONE);
            refused("may(" + w + ", 0, 1, 2, 0)", x -> x.may(w, 0, 1, 2, 0), NONE);
            refused("may(0, " + w + ", 1, 2, 0)", x -> x.may(0, w, 1, 2, 0), NONE);
        }
        Due.by("NONE if one can't be (a set that is not there, too large, nothing TAKEN).");
        int[] notTaken = {0, 2, 3, 4, 8, 9, 16, 32, 33, 1023, 1024, 1025, 1 << 16 | 1, Integer.MIN_VALUE,
            Integer.MIN_VALUE | 1, Integer.MAX_VALUE, -1, -2};
        for (int set : notTaken) {
            refused("theft(0, 0, " + set + ", 2)", x -> x.theft(0, 0, set, 2), NONE);
            for (int what = -1; what < 4; what++) {
                int w = what;
                refused("may(0, 0, " + set + ", 2, " + w + ")", x -> x.may(0, 0, set, 2, w), NONE);
            }
        }
        int[] notLeft = {1, 3, 8, 10, 32, 34, 1023, 1024, 1026, 1 << 16 | 2, Integer.MIN_VALUE, Integer.MIN_VALUE | 2,
            Integer.MAX_VALUE, -1, -2};
        for (int set : notLeft) {
            refused("theft(0, 0, 1, " + set + ")", x -> x.theft(0, 0, 1, set), NONE);
            refused("may(0, 0, 1, " + set + ", 0)", x -> x.may(0, 0, 1, set, 0), NONE);
        }
        for (int w : wrong(3)) {
            refused("may(0, 0, 1, 2, " + w + ")", x -> x.may(0, 0, 1, 2, w), NONE);
        }
        refused("theft of one in JAIL", x -> x.theft(1, 0, 1, 0), NONE);
        refused("may of one in JAIL", x -> x.may(1, 0, 1, 0, 0), 0);
    }

    private static void gifts() {
        Due.by("A GIFT: true; false, doing nothing, if one can't be, or it is there already.");
        for (int w : wrong(5)) {
            refused("gift(" + w + ", 0, false)", x -> of(x.gift(w, 0, false)), 0);
            refused("gift(" + w + ", 0, true)", x -> of(x.gift(w, 0, true)), 0);
        }
        for (int w : wrong(2)) {
            refused("gift(0, " + w + ", false)", x -> of(x.gift(0, w, false)), 0);
            refused("gift(0, " + w + ", true)", x -> of(x.gift(0, w, true)), 0);
            refused("gift(3, " + w + ", true) of what is nowhere", x -> of(x.gift(3, w, true)), 0);
        }
        refused("gift to its HOUSE", x -> of(x.gift(0, 0, false)), 0);
        refused("gift to its THIEF", x -> of(x.gift(1, 0, true)), 0);
    }

    private static void searches() {
        Due.by("How many SWAPS a THIEF has now; NONE if there is none such.");
        for (int w : wrong(2)) {
            refused("swaps(" + w + ")", x -> x.swaps(w), NONE);
        }
        Due.by("GAP if there is no SWAP, or no such THIEF.");
        for (int w : wrong(2)) {
            cleared("best(" + w + ")", x -> x.best(w), GAP);
        }
        cleared("best(1)", x -> x.best(1), GAP);
        Due.by("TOUR: how many HOURS; NONE if 9 are not enough, or one can't be; -2 if SPENT.");
        for (int w : wrong(2)) {
            cleared("tour(" + w + ", 0)", x -> x.tour(w, 0), NONE);
        }
        for (int w : wrong(5)) {
            cleared("tour(0, " + w + ")", x -> x.tour(0, w), NONE);
        }
        cleared("tour(0, 3) of what is nowhere", x -> x.tour(0, 3), NONE);
        cleared("tour(0, 1) of what he has", x -> x.tour(0, 1), 0);
        Due.by("UNBETTERED of a HOUSE, as bits; NONE if there is none such.");
        for (int w : wrong(2)) {
            refused("unbettered(" + w + ")", x -> x.unbettered(w), NONE);
        }
        Due.by("WHO by a BOX: how many SWAPS (each HOUR counts); NONE if nothing is there.");
        for (int w : wrong(3)) {
            cleared("who(" + w + ")", x -> x.who(w), NONE);
        }
        cleared("who(1)", x -> x.who(1), NONE);
        cleared("who(2)", x -> x.who(2), 0);
        Due.by("The i-th number of what lies there; GAP if there is none such.");
        for (int w : wrong(3)) {
            refused("lies(" + w + ")", x -> x.lies(w), GAP);
        }
    }

    private static void rounds() {
        Due.by("NONE: nowhere; -2 if one can't be.");
        for (int w : wrong(5)) {
            refused("drift(" + w + ", 1)", x -> x.drift(w, 1), CANT);
        }
        for (int w : wrong(61)) {
            if (w < 0 || w > 60) {
                refused("drift(0, " + w + ")", x -> x.drift(0, w), CANT);
                refused("sums(0, false, " + w + ")", x -> x.sums(0, false, w), NONE);
                refused("sums(0, true, " + w + ")", x -> x.sums(0, true, w), NONE);
            }
        }
        for (int w : wrong(2)) {
            refused("sums(" + w + ", false, 1)", x -> x.sums(w, false, 1), NONE);
            refused("sums(" + w + ", true, 1)", x -> x.sums(w, true, 1), NONE);
            refused("lie(" + w + ", 1, 0)", x -> x.lie(w, 1, 0), CANT);
        }
        Due.by("LIE what 0: what it has then, 1: the THING (NONE: none), 2: the WORTH (NONE); -2 if one can't be.");
        for (int w : wrong(5)) {
            refused("lie(0, " + w + ", 0)", x -> x.lie(0, w, 0), CANT);
        }
        refused("lie(0, 0, 0)", x -> x.lie(0, 0, 0), CANT);
        for (int w : wrong(3)) {
            refused("lie(0, 1, " + w + ")", x -> x.lie(0, 1, w), CANT);
        }
    }

    private static void reports() {
        Due.by("A REPORT: its number; NONE, doing nothing, if one can't be (the same THING twice, "
                + "an HOUR that no NIGHT has, too), or there are 30.");
        for (int w : wrong(2)) {
            refused("report(" + w + ", 0, 1, 0, true)", x -> x.report(w, 0, 1, 0, true), NONE);
        }
        for (int w : wrong(5)) {
            refused("report(0, " + w + ", 1, 0, true)", x -> x.report(0, w, 1, 0, true), NONE);
            refused("report(0, 0, " + w + ", 0, false)", x -> x.report(0, 0, w, 0, false), NONE);
            refused("report(0, " + w + ", " + w + ", 0, false)", x -> x.report(0, w, w, 0, false), NONE);
        }
        for (int t = 0; t < 5; t++) {
            int same = t;
            refused("report(0, " + t + ", " + t + ", 0, true)", x -> x.report(0, same, same, 0, true), NONE);
        }
        for (int w : wrong(3)) {
            refused("report(0, 0, 1, " + w + ", true)", x -> x.report(0, 0, 1, w, true), NONE);
        }
        Due.by("It is UNTOLD: true; false if it is so already, or there is none such.");
        for (int w : wrong(2)) {
            refused("untell(" + w + ")", x -> of(x.untell(w)), 0);
        }
        refused("untell(0), UNTOLD already", x -> of(x.untell(0)), 0);
        refused("untell(0), UNTOLD already, later", x -> {
            x.later(0);
            return of(x.untell(0));
        }, 0);
        Due.by("NONE, doing nothing, for another number, or if it would be above 100,000.");
        for (int w : wrong(1001)) {
            if (w < 0 || w > 1000) {
                refused("later(" + w + ")", x -> x.later(w), NONE);
            }
        }
    }

    private static void knowing() {
        Due.by("SPAN what 0: how many, 1: the least, 2: the most (NONE if there are none); -2 if one can't be.");
        for (int w : wrong(2)) {
            refused("span(" + w + ", 0, 0, 0)", x -> x.span(w, 0, 0, 0), CANT);
            refused("ask(" + w + ", 0, 0, 0)", x -> x.ask(w, 0, 0, 0), CANT);
            refused("ask(0, 0, " + w + ", 0)", x -> x.ask(0, 0, w, 0), CANT);
        }
        for (int w : wrong(5)) {
            refused("span(0, " + w + ", 0, 0)", x -> x.span(0, w, 0, 0), CANT);
            refused("ask(0, " + w + ", 0, 0)", x -> x.ask(0, w, 0, 0), CANT);
        }
        for (int w : wrong(3)) {
            refused("span(0, 0, " + w + ", 0)", x -> x.span(0, 0, w, 0), CANT);
        }
    }

    private static void boxes() {
        Due.by("are kept in a BOX 0 .. 2: the NIGHT; NONE if there is none such.");
        for (int w : wrong(3)) {
            refused("image(" + w + ")", x -> x.image(w), NONE);
        }
        Due.by("All is as it was kept (no ACTS are kept then): the NIGHT; NONE, doing nothing, if nothing was.");
        for (int w : wrong(3)) {
            refused("back(" + w + ")", x -> x.back(w), NONE);
        }
        refused("back(1)", x -> x.back(1), NONE);
    }

    /** Calls that ask what is, by arguments that can be. */
    private static void asking() {
        Due.by("(By what is now; nothing is done.)");
        refused("swaps(0)", x -> x.swaps(0), 6);
        refused("drift(0, 60)", x -> x.drift(0, 60), 10);
        refused("sums(0, true, 60)", x -> x.sums(0, true, 60), Twins.busy().sums(0, true, 60));
        refused("rests()", x -> x.rests(), 4);
        refused("lie(0, 4, 0)", x -> x.lie(0, 4, 0), Twins.busy().lie(0, 4, 0));
        refused("lie(0, 4, 1)", x -> x.lie(0, 4, 1), Twins.busy().lie(0, 4, 1));
        refused("unbettered(0)", x -> x.unbettered(0), 0);
        refused("span(0, 0, 0, 3)", x -> x.span(0, 0, 0, 3), 100);
        refused("ask(0, 0, 0, 3)", x -> x.ask(0, 0, 0, 3), Twins.busy().ask(0, 0, 0, 3));
        refused("may", x -> x.may(0, 0, 1, 2, 2), 1);
        refused("minutes", x -> x.minutes(0, 0, 6), 13);
        refused("thing", x -> x.thing(0, 3), 0);
        refused("worth", x -> x.worth(0, 0, true), 20);
        refused("sum", x -> x.sum(0, true), 66);
        refused("lies", x -> x.lies(0), 0);
        Twins.onlyLays("best(0)", Twins::busy, x -> x.best(0), 13);
        Twins.onlyLays("tour(0, 0)", Twins::busy, x -> x.tour(0, 0), 1);
        Twins.onlyLays("loopholes()", Twins::busy, x -> x.loopholes(), 0);
        Twins.onlyLays("who(0)", Twins::busy, x -> x.who(0), 0);
    }

    private static void emptyCity() {
        Due.by("`BetterThieves()`: An empty CITY.");
        for (int w : new int[] {0, 1, -1}) {
            Twins.unchanged("thing", BetterThieves::new, x -> x.thing(w, 0), CANT);
            Twins.unchanged("has", BetterThieves::new, x -> x.has(w, false), NONE);
            Twins.unchanged("has", BetterThieves::new, x -> x.has(w, true), NONE);
            Twins.unchanged("theft", BetterThieves::new, x -> x.theft(w, 0, 1, 0), NONE);
            Twins.unchanged("gift", BetterThieves::new, x -> of(x.gift(w, 0, false)), 0);
            Twins.unchanged("report", BetterThieves::new, x -> x.report(w, 0, 1, 0, true), NONE);
            Twins.unchanged("back", BetterThieves::new, x -> x.back(w), NONE);
            Twins.unchanged("untell", BetterThieves::new, x -> of(x.untell(w)), 0);
            Twins.unchanged("best", BetterThieves::new, x -> x.best(w), GAP);
            Twins.unchanged("tour", BetterThieves::new, x -> x.tour(w, 0), NONE);
            Twins.unchanged("who", BetterThieves::new, x -> x.who(w), NONE);
            Twins.unchanged("lies", BetterThieves::new, x -> x.lies(w), GAP);
            Twins.unchanged("lie", BetterThieves::new, x -> x.lie(w, 1, 0), CANT);
            Twins.unchanged("span", BetterThieves::new, x -> x.span(w, 0, 0, 0), CANT);
            Twins.unchanged("ask", BetterThieves::new, x -> x.ask(w, 0, 0, 0), CANT);
        }
        Twins.unchanged("undo", BetterThieves::new, x -> of(x.undo()), 0);
        Twins.unchanged("redo", BetterThieves::new, x -> of(x.redo()), 0);
        Twins.unchanged("rests", BetterThieves::new, x -> x.rests(), 6);
        Twins.unchanged("loopholes", BetterThieves::new, x -> x.loopholes(), 0);
        Twins.unchanged("end", BetterThieves::new, x -> x.end(1), NONE);
        Twins.unchanged("city", BetterThieves::new, x -> x.city(), 0);
    }
}
