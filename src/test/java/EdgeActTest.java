/** The edges of promises 13 to 17 and 34 to 36, and of what "Terms" says of ACTS, NIGHTS, UNDO and REDO. */
public final class EdgeActTest {
    /** HOUSE 0 is watched in HOUR 1; THIEF 0 has THING 1 for THING 0; THING 3 is nowhere. */
    private static final String CITY = "night 3;" + Texts.worths(5, 7, 9, 1) + "house ha lock 0 watch 1 has a;"
            + "house hb lock 0 has c;thief pa sack 9 skill 0 has b;thief pb sack 9 skill 0;";

    private EdgeActTest() {
    }

    public static void main(String[] args) {
        atFirst();
        answers();
        caught();
        crimes();
        lastHour();
        waits();
        gifts();
        night200();
        night200Twins();
        undoEach();
        redoTillAnother();
        fortyKept();
        wrapsAround();
        fortyAndRedo();
        nothingToUndo();
        images();
        imageIsItsOwn();
        backKeepsNoActs();
        about();
        Due.finish();
    }

    private static long of(boolean answer) {
        return answer ? 1 : 0;
    }

    private static void hourIs(String when, BetterThieves x, int night, int hour) {
        Due.is(when + ": NIGHT", x.about(4), night);
        Due.is(when + ": HOUR", x.about(5), hour);
    }

    private static void atFirst() {
        Due.by("In earnest there are THINGS as told, NIGHT 0, HOUR 0, nobody in JAIL, no CRIMES.");
        BetterThieves x = Due.city(CITY);
        hourIs("at first", x, 0, 0);
        Due.is("JAIL", x.about(7), 0);
        Due.is("CRIMES", x.about(8), 0);
        Due.is("ACTS", x.about(9), 0);
        Due.is("HOUSE 0", x.has(0, false), 1);
        Due.is("HOUSE 1", x.has(1, false), 4);
        Due.is("THIEF 0", x.has(0, true), 2);
        Due.is("THIEF 1", x.has(1, true), 0);
        // told again, it is so again
        x.theft(1, 0, 1, 0);
        x.theft(0, 0, 1, 0);
        x.gift(2, 0, true);
        Due.feed(x, CITY);
        Due.is("city", x.city(), 4);
        hourIs("told again", x, 0, 0);
        Due.is("JAIL", x.about(7), 0);
        Due.is("CRIMES", x.about(8), 0);
        Due.is("HOUSE 1", x.has(1, false), 4);
    }

    private static void answers() {
        Due.by("A THEFT: 2: CAUGHT, 1: LAWFUL, 0: not;");
        BetterThieves x = Due.city(CITY);
        Due.is("LAWFUL", x.theft(0, 0, 1, 2), 1);
        hourIs("behind it", x, 0, 1);
        Due.is("no CRIME", x.thief(0, 1), 0);
        Due.is("moved", x.has(0, true), 1);
        Due.is("moved", x.has(0, false), 2);
        Due.is("CAUGHT, LAWFUL or not", x.theft(1, 0, 2, 0), 2);
        hourIs("behind it", x, 0, 2);
        Due.is("nothing moved", x.has(1, true), 0);
        Due.is("no CRIME", x.about(8), 0);
        Due.is("not LAWFUL", x.theft(0, 0, 2, 1), 0);
        hourIs("behind it", x, 1, 0);
        Due.is("a CRIME", x.thief(0, 1), 1);
        Due.is("moved", x.has(0, true), 2);
        Due.is("moved", x.has(0, false), 1);
        Due.is("ACTS", x.about(9), 3);
        Due.is("refused", x.theft(0, 0, 2, 1), -1);
        hourIs("behind it", x, 1, 0);
        Due.is("ACTS", x.about(9), 3);
    }

    private static void caught() {
        Due.by("SEEN, nothing moves, and he is in JAIL;");
        BetterThieves x = Due.city("night 4;" + Texts.worths(5, 7) + "house ha lock 0 watch 0 watch 1 watch 2 has a;"
                + Texts.thieves(4));
        Due.is("CAUGHT", x.theft(3, 0, 1, 0), 2);
        Due.is("bits", x.about(7), 8);
        Due.is("CAUGHT", x.theft(0, 0, 1, 0), 2);
        Due.is("bits", x.about(7), 9);
        Due.is("CAUGHT", x.theft(2, 0, 1, 0), 2);
        Due.is("bits", x.about(7), 13);
        for (int p = 0; p < 4; p++) {
            Due.is("in JAIL", x.thief(p, 0), p == 1 ? 0 : 1);
        }
        Due.is("nothing moved", x.has(0, false), 1);
        Due.is("no CRIME", x.about(8), 0);
        Due.is("in JAIL he CAN't", x.theft(3, 0, 1, 0), -1);
        Due.is("who is not CAN", x.theft(1, 0, 1, 0), 0);
        Due.is("it was the last HOUR", x.about(7), 0);
        // to be CAUGHT takes no room in the sack that he has not: what CAN't be is not SEEN
        BetterThieves y = Due.city(Texts.weights(10) + "house ha lock 0 watch 0 has a;thief pa sack 9 skill 0;");
        Due.is("too heavy", y.theft(0, 0, 1, 0), -1);
        Due.is("not in JAIL", y.about(7), 0);
        Due.is("but SEEN if it were", y.may(0, 0, 1, 0, 1), 1);
    }

    private static void crimes() {
        Due.by("else it is done, and, if it is not LAWFUL, it is a CRIME of his; then the HOUR goes on;");
        BetterThieves x = Due.city("night 1;" + Texts.worths(5, 7) + "house ha lock 0 has a;" + Texts.thieves(4));
        for (int i = 1; i <= 60; i++) {
            int p = i % 4;
            Due.is("not LAWFUL", x.theft(p, 0, 1, 0), 0);
            Due.is("his CRIMES", x.thief(p, 1), (i + (4 - p) % 4) / 4);
            x.gift(0, 0, false);
        }
        Due.is("CRIMES in all", x.about(8), 60);
        hourIs("a NIGHT each", x, 60, 0);
        for (int i = 0; i < 4; i++) {
            Due.is("fifteen each", x.thief(i, 1), 15);
        }
    }

    private static void lastHour() {
        Due.by("Behind the last HOUR comes HOUR 0 of the next NIGHT, and nobody is in JAIL.");
        for (int n = 1; n <= 9; n++) {
            BetterThieves x = Due.city("night " + n + ";" + Texts.worths(5) + "house ha lock 0" + Texts.watches(n)
                    + " has a;" + Texts.thieves(2));
            Due.is("CAUGHT in HOUR 0", x.theft(0, 0, 1, 0), 2);
            for (int i = 1; i < n; i++) {
                hourIs("in JAIL", x, 0, i);
                Due.is("in JAIL", x.about(7), 1);
                Due.is("the last HOUR goes by, or another", x.waits(), (i + 1) % n);
            }
            hourIs("the next NIGHT", x, 1, 0);
            Due.is("nobody in JAIL", x.about(7), 0);
            for (int i = 1; i < n; i++) {
                x.waits();
            }
            hourIs("the last HOUR", x, 1, n - 1);
            Due.is("CAUGHT in it", x.theft(1, 0, 1, 0), 2);
            hourIs("the next NIGHT", x, 2, 0);
            Due.is("nobody in JAIL", x.about(7), 0);
            Due.is("he CAN at once", x.theft(1, 0, 1, 0), 2);
        }
    }

    private static void waits() {
        Due.by("An HOUR goes by: the HOUR; NONE, doing nothing, if it is NIGHT 200.");
        for (int n = 1; n <= 9; n++) {
            BetterThieves x = Due.city("night " + n + ";");
            for (int i = 1; i <= 20; i++) {
                Due.is("waits", x.waits(), i % n);
                hourIs("waits", x, i / n, i % n);
                Due.is("an ACT", x.about(9), i);
            }
        }
    }

    private static void gifts() {
        Due.by("a GIFT: a THING is at another HOLDER (whatever weight; no HOUR goes by).");
        BetterThieves x = Due.city("night 2;" + Texts.weights(99, 99) + Texts.houses(5)
                + "thief pa sack 0 skill 0 has a;" + Texts.thieves(4).substring(Texts.thieves(1).length()));
        for (int i = 0; i < 9; i++) {
            int holder = i < 5 ? i : i - 5;
            boolean thief = i >= 5;
            Due.is("gift", x.gift(0, holder, thief), true);
            Due.is("it is there", x.has(holder, thief), 1);
            Due.is("it is there alone", x.thing(0, thief ? 3 : 4), -1);
            Due.is("there already", x.gift(0, holder, thief), false);
            hourIs("no HOUR goes by", x, 0, 0);
            Due.is("ACTS", x.about(9), i + 1);
        }
        Due.is("no sixth HOUSE", x.gift(0, 5, false), false);
        Due.is("no fifth THIEF", x.gift(0, 4, true), false);
        Due.is("no third THING", x.gift(2, 0, true), false);
        Due.is("from nowhere", x.gift(1, 0, true), true);
        Due.is("it weighs more than his sack", x.thief(0, 2), 99);
        Due.is("undo", x.undo(), true);
        Due.is("nowhere again", x.drift(1, 0), -1);
        // to one in JAIL, and from him
        BetterThieves y = Due.city(CITY);
        y.waits();
        Due.is("CAUGHT", y.theft(0, 0, 1, 0), 2);
        Due.is("to one in JAIL", y.gift(2, 0, true), true);
        Due.is("from one in JAIL", y.gift(1, 1, false), true);
        Due.is("in JAIL still", y.thief(0, 0), 1);
        Due.is("THINGS", y.has(0, true), 4);
    }

    private static BetterThieves inNight200() {
        BetterThieves x = Due.city("night 1;" + Texts.worths(5, 7) + "house ha lock 0 has a;"
                + "thief pa sack 9 skill 0 has b;");
        for (int i = 0; i < 200; i++) {
            x.waits();
        }
        return x;
    }

    private static void night200() {
        Due.by("or it is NIGHT 200.");
        BetterThieves x = Due.city("night 2;" + Texts.worths(5, 7) + "house ha lock 0 has a;"
                + "thief pa sack 9 skill 0 has b;");
        for (int i = 1; i < 400; i++) {
            Due.is("waits", x.waits(), i % 2);
        }
        hourIs("the last HOUR", x, 199, 1);
        Due.is("theft in it", x.theft(0, 0, 1, 2), 1);
        hourIs("behind it", x, 200, 0);
        Due.is("theft", x.theft(0, 0, 2, 1), -1);
        Due.is("waits", x.waits(), -1);
        hourIs("it stays", x, 200, 0);
        Due.is("may", x.may(0, 0, 2, 1, 0), 1);
        Due.is("undo", x.undo(), true);
        hourIs("undone", x, 199, 1);
        Due.is("waits in it", x.waits(), 0);
        hourIs("behind it", x, 200, 0);
        Due.is("waits", x.waits(), -1);
        Due.is("image", x.image(0), 200);
        Due.is("a GIFT can be", x.gift(0, 0, true), true);
        hourIs("it stays", x, 200, 0);
        Due.is("back", x.back(0), 200);
        Due.is("waits", x.waits(), -1);
        Due.is("SWAPS", x.swaps(0), 1);
        Due.is("TOUR", x.tour(0, 0), 1);
        Due.is("ROUNDS", x.drift(0, 60), 0);
        Due.is("RESTS", x.rests(), 2);
    }

    private static void night200Twins() {
        Twins.unchanged("theft in NIGHT 200", EdgeActTest::inNight200, x -> x.theft(0, 0, 1, 2), -1);
        Twins.unchanged("waits in NIGHT 200", EdgeActTest::inNight200, BetterThieves::waits, -1);
        BetterThieves x = inNight200();
        Due.is("redo in NIGHT 200", x.redo(), false);
        Due.is("undo in NIGHT 200", x.undo(), true);
        Due.is("redo into NIGHT 200", x.redo(), true);
        hourIs("redone", x, 200, 0);
    }

    /** Each sort of ACT is taken back whole. */
    private static void undoEach() {
        Due.by("UNDO takes back the latest ACT that was not,");
        Twins.Call[] acts = {x -> x.theft(0, 0, 1, 2), x -> x.theft(0, 0, 1, 0), x -> x.theft(1, 1, 4, 0), x -> x.waits(),
            x -> of(x.gift(0, 1, true)), x -> of(x.gift(3, 0, false)), x -> of(x.gift(1, 1, false))};
        int[] answers = {1, 0, 0, 1, 1, 1, 1};
        for (int i = 0; i < acts.length; i++) {
            BetterThieves x = Due.city(CITY);
            int[] before = state(x);
            Due.is("ACT " + i, acts[i].on(x), answers[i]);
            int[] behind = state(x);
            Due.is("undo", x.undo(), true);
            same("undone " + i, state(x), before);
            Due.is("to be undone", x.about(9), 0);
            Due.is("to be redone", x.about(10), 1);
            Due.is("redo", x.redo(), true);
            same("redone " + i, state(x), behind);
            Due.is("to be undone", x.about(9), 1);
            Due.is("to be redone", x.about(10), 0);
        }
        // who was CAUGHT, in the last HOUR and ahead of it
        BetterThieves x = Due.city("night 2;" + Texts.worths(5) + "house ha lock 0 watch 0 watch 1 has a;"
                + Texts.thieves(2));
        x.theft(0, 0, 1, 0);
        int[] between = state(x);
        Due.is("one in JAIL", x.about(7), 1);
        x.theft(1, 0, 1, 0);
        int[] then = state(x);
        Due.is("nobody in JAIL", x.about(7), 0);
        x.undo();
        same("undone", state(x), between);
        x.undo();
        Due.is("nobody in JAIL", x.about(7), 0);
        x.redo();
        same("redone", state(x), between);
        x.redo();
        same("redone", state(x), then);
    }

    private static int[] state(BetterThieves x) {
        int[] row = new int[14];
        for (int i = 0; i < 2; i++) {
            row[i] = x.has(i, false);
            row[2 + i] = x.has(i, true);
            row[4 + i] = x.thief(i, 0);
            row[6 + i] = x.thief(i, 1);
        }
        row[8] = x.about(4);
        row[9] = x.about(5);
        row[10] = x.about(7);
        row[11] = x.about(8);
        return row;
    }

    private static void same(String when, int[] got, int[] want) {
        for (int i = 0; i < want.length; i++) {
            Due.is(when + ", number " + i, got[i], want[i]);
        }
    }

    private static void redoTillAnother() {
        Due.by("REDO does that again which was taken back last (till another ACT);");
        Twins.Call[] others = {x -> x.theft(0, 0, 1, 2), x -> x.theft(0, 0, 1, 0), x -> x.waits(),
            x -> of(x.gift(3, 1, true))};
        for (Twins.Call other : others) {
            BetterThieves x = twoUndone();
            Due.is("another ACT", other.on(x) >= 0, true);
            Due.is("to be undone", x.about(9), 1);
            Due.is("to be redone", x.about(10), 0);
            Due.is("redo", x.redo(), false);
        }
        // one that CAUGHT
        BetterThieves y = Due.city(CITY);
        y.waits();
        y.waits();
        y.undo();
        Due.is("CAUGHT", y.theft(1, 0, 1, 0), 2);
        Due.is("to be redone", y.about(10), 0);
        // what is refused, asked, kept or told is no ACT
        Twins.Call[] none = {x -> x.theft(0, 0, 2, 0), x -> of(x.gift(0, 0, false)), x -> x.best(0), x -> x.image(0),
            x -> x.report(0, 0, 1, 0, true), x -> x.later(5), x -> x.feed(0, 0, 0, 0, 0), x -> x.back(1),
            x -> x.tour(0, 0)};
        for (int i = 0; i < none.length; i++) {
            BetterThieves x = twoUndone();
            none[i].on(x);
            Due.is("to be redone, " + i, x.about(10), 2);
            Due.is("redo", x.redo(), true);
            hourIs("redo", x, 0, 1);
            Due.is("redo", x.redo(), true);
            Due.is("the second one", x.has(1, true), 1);
            Due.is("redo", x.redo(), false);
        }
    }

    private static BetterThieves twoUndone() {
        BetterThieves x = Due.city(CITY);
        x.waits();
        x.gift(0, 1, true);
        x.undo();
        x.undo();
        return x;
    }

    private static void fortyKept() {
        Due.by("40 at most are kept, the oldest go.");
        for (int n = 38; n <= 43; n++) {
            BetterThieves x = Due.city("night 9;");
            for (int i = 0; i < n; i++) {
                x.waits();
            }
            int kept = Math.min(40, n);
            Due.is(n + " ACTS", x.about(9), kept);
            Due.is("none to be redone", x.about(10), 0);
            for (int i = 0; i < kept; i++) {
                Due.is("undo", x.undo(), true);
            }
            Due.is("undo", x.undo(), false);
            hourIs("the oldest are done for good", x, (n - kept) / 9, (n - kept) % 9);
            Due.is("to be redone", x.about(10), kept);
            for (int i = 0; i < kept; i++) {
                Due.is("redo", x.redo(), true);
            }
            Due.is("redo", x.redo(), false);
            hourIs("redone", x, n / 9, n % 9);
        }
    }

    private static void wrapsAround() {
        // the states between them go round and round: 200 ACTS, now and then some of them undone
        BetterThieves x = Due.city("night 9;");
        int done = 0;
        int kept = 0;
        for (int i = 0; i < 50; i++) {
            for (int j = 0; j < 4; j++) {
                x.waits();
            }
            done += 4;
            kept = Math.min(40, kept + 4);
            if (i % 5 == 4) {
                Due.is("undo", x.undo(), true);
                Due.is("undo", x.undo(), true);
                Due.is("redo", x.redo(), true);
                done--;
                kept--;
            }
            Due.is("to be undone", x.about(9), kept);
            hourIs("HOURS", x, done / 9, done % 9);
        }
        x.waits();
        done++;
        for (int i = 1; i <= 40; i++) {
            Due.is("undo", x.undo(), true);
        }
        hourIs("forty back", x, (done - 40) / 9, (done - 40) % 9);
        Due.is("undo", x.undo(), false);
    }

    private static void fortyAndRedo() {
        BetterThieves x = Due.city("night 9;");
        for (int i = 0; i < 50; i++) {
            x.waits();
        }
        for (int i = 0; i < 15; i++) {
            x.undo();
        }
        Due.is("to be undone", x.about(9), 25);
        Due.is("to be redone", x.about(10), 15);
        x.waits();
        Due.is("to be undone", x.about(9), 26);
        Due.is("to be redone", x.about(10), 0);
        for (int i = 0; i < 14; i++) {
            x.waits();
        }
        Due.is("forty again", x.about(9), 40);
        x.waits();
        Due.is("forty still", x.about(9), 40);
        for (int i = 0; i < 40; i++) {
            x.undo();
        }
        hourIs("back", x, 1, 2);
    }

    private static void nothingToUndo() {
        Due.by("UNDO: true; false if there is none.");
        Twins.unchanged("undo of nothing", () -> Due.city(CITY), x -> of(x.undo()), 0);
        Twins.unchanged("undo of nothing more", EdgeActTest::twoUndone, x -> of(x.undo()), 0);
        Due.by("REDO: true; false if there is none.");
        Twins.unchanged("redo of nothing", () -> Due.city(CITY), x -> of(x.redo()), 0);
        Twins.unchanged("redo of nothing more", () -> {
            BetterThieves x = twoUndone();
            x.redo();
            x.redo();
            return x;
        }, x -> of(x.redo()), 0);
    }

    private static void images() {
        Due.by("Where THINGS are, NIGHT, HOUR, JAIL, CRIMES are kept in a BOX 0 .. 2: the NIGHT;");
        BetterThieves x = Due.city(CITY);
        for (int box = 0; box < 3; box++) {
            Due.is("nothing was", x.back(box), -1);
        }
        Due.is("image", x.image(0), 0);
        Due.is("CRIME", x.theft(0, 1, 4, 0), 0);
        Due.is("CAUGHT", x.theft(1, 0, 1, 0), 2);
        int[] jail = state(x);
        Due.is("image", x.image(1), 0);
        x.gift(3, 1, true);
        x.waits();
        int[] night = state(x);
        Due.is("image", x.image(2), 1);
        Due.is("image", x.image(3), -1);
        Due.is("image", x.image(-1), -1);
        x.waits();
        Due.is("back", x.back(1), 0);
        same("BOX 1", state(x), jail);
        Due.is("back", x.back(2), 1);
        same("BOX 2", state(x), night);
        Due.is("THING 3", x.thing(3, 4), 1);
        Due.is("back", x.back(0), 0);
        Due.is("THING 3", x.thing(3, 4), -1);
        Due.is("JAIL", x.about(7), 0);
        Due.is("CRIMES", x.about(8), 0);
        Due.is("back", x.back(3), -1);
        Due.is("back", x.back(-1), -1);
    }

    private static void imageIsItsOwn() {
        // a BOX holds the latest, and what is done behind it does not reach into it
        BetterThieves x = Due.city(CITY);
        x.image(1);
        x.waits();
        x.image(1);
        x.waits();
        Due.is("back", x.back(1), 0);
        hourIs("the latest", x, 0, 1);
        x.gift(0, 1, true);
        x.waits();
        Due.is("back once more", x.back(1), 0);
        hourIs("the same", x, 0, 1);
        Due.is("THING 0", x.thing(0, 3), 0);
        Due.is("BOX 0 is empty", x.back(0), -1);
        Due.is("BOX 2 is empty", x.back(2), -1);
        // undone or not, it stays kept
        x.waits();
        x.image(0);
        x.undo();
        Due.is("back", x.back(0), 0);
        hourIs("kept ahead of the undo", x, 0, 2);
    }

    private static void backKeepsNoActs() {
        Due.by("All is as it was kept (no ACTS are kept then): the NIGHT; NONE, doing nothing, if nothing was.");
        BetterThieves x = Due.city(CITY);
        x.waits();
        x.waits();
        x.waits();
        x.waits();
        x.undo();
        x.image(0);
        Due.is("an image is no ACT", x.about(9), 3);
        Due.is("and keeps what can be redone", x.about(10), 1);
        Due.is("back", x.back(0), 1);
        Due.is("to be undone", x.about(9), 0);
        Due.is("to be redone", x.about(10), 0);
        Due.is("undo", x.undo(), false);
        Due.is("redo", x.redo(), false);
        hourIs("back", x, 1, 0);
        // gone on from
        Due.is("waits", x.waits(), 1);
        Due.is("to be undone", x.about(9), 1);
        Due.is("undo", x.undo(), true);
        hourIs("undone", x, 1, 0);
        Due.is("undo", x.undo(), false);
        Due.is("redo", x.redo(), true);
        hourIs("redone", x, 1, 1);
        // the TAPE, REPORTS, the TIME and what lies there are not in a BOX
        x.report(0, 0, 1, 0, true);
        x.later(9);
        x.feed(0, 0, 0, 0, 0);
        x.waits();
        Due.is("best", x.best(0), -2);
        x.back(0);
        Due.is("REPORTS", x.about(11), 1);
        Due.is("TIME", x.about(12), 9);
        Due.is("TAPE", x.about(13), 20);
        Due.is("what lies there", x.about(15), 3);
    }

    private static void about() {
        Due.by("0: THINGS, 1: HOUSES, 2: THIEVES, 3: KINDS,");
        BetterThieves x = Due.city(Texts.full());
        int[] want = {10, 5, 4, 6, 0, 0, 9, 0, 0, 0, 0, 0, 0, 0, 30, 0};
        for (int i = 0; i < 16; i++) {
            Due.is("full, about(" + i + ")", x.about(i), want[i]);
        }
        Due.by("4: the NIGHT, 5: the HOUR, 6: HOURS of a NIGHT, 7: who is in JAIL (bits), 8: CRIMES in all, "
                + "9: ACTS that can be undone, 10: redone, 11: REPORTS, 12: the TIME, 13: bytes on the TAPE, "
                + "14: units, 15: how many lie there. NONE for another what.");
        Due.is("about(16)", x.about(16), -1);
        Due.is("about(-1)", x.about(-1), -1);
        Due.is("about(max)", x.about(Integer.MAX_VALUE), -1);
        Due.is("about(min)", x.about(Integer.MIN_VALUE), -1);
        for (int i = 0; i < 30; i++) {
            x.report(0, 0, 1, 0, true);
        }
        Due.is("REPORTS", x.about(11), 30);
        x.untell(3);
        Due.is("REPORTS, one of them UNTOLD", x.about(11), 30);
        for (int i = 0; i < 4; i++) {
            Due.is("CAUGHT", x.theft(i, 0, 1, 0), 2);
        }
        Due.is("all in JAIL", x.about(7), 15);
        Due.is("HOUR", x.about(5), 4);
        for (int i = 4; i < 9; i++) {
            x.waits();
        }
        Due.is("NIGHT", x.about(4), 1);
        Due.is("nobody in JAIL", x.about(7), 0);
    }
}
