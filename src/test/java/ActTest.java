/** Promises 13 to 17 and 34 to 36: ACTS in earnest, taken back, kept in BOXES. */
public final class ActTest {
    private static final String CITY = "night 3;kind a;"
            + "thing u of a weight 1 worth 5;thing v of a weight 1 worth 7;thing w of a weight 50 worth 9;"
            + "house h lock 1 watch 1 has u;house g lock 1 has w;"
            + "thief p sack 5 skill 1 has v;thief q sack 99 skill 1;";

    private ActTest() {
    }

    public static void main(String[] args) {
        thefts();
        jail();
        nights();
        gifts();
        undo();
        oldestGo();
        boxes();
        about();
        Due.finish();
    }

    private static void thefts() {
        BetterThieves x = Due.city(CITY);
        Due.is("too heavy", x.theft(0, 1, 4, 2), -1);
        Due.is("nothing TAKEN", x.theft(0, 0, 0, 2), -1);
        Due.is("not there", x.theft(0, 0, 4, 2), -1);
        Due.is("not in STOCK", x.theft(1, 0, 1, 2), -1);
        Due.is("no THIEF", x.theft(2, 0, 1, 0), -1);
        Due.is("no HOUSE", x.theft(0, 2, 1, 0), -1);
        Due.is("THIEF -1", x.theft(-1, 0, 1, 0), -1);
        Due.is("HOUSE -1", x.theft(0, -1, 1, 0), -1);
        Due.is("HOUSE max", x.theft(0, Integer.MAX_VALUE, 1, 0), -1);
        Due.is("nothing done", x.about(9), 0);
        Due.is("the HOUR stays", x.about(5), 0);
        Due.is("LAWFUL", x.theft(0, 0, 1, 2), 1);
        Due.is("moved", x.has(0, true), 1);
        Due.is("moved", x.has(0, false), 2);
        Due.is("no CRIME", x.thief(0, 1), 0);
        Due.is("the HOUR goes on", x.about(5), 1);
        Due.is("CAUGHT", x.theft(0, 0, 2, 1), 2);
        Due.is("nothing moved", x.has(0, true), 1);
        Due.is("no CRIME", x.thief(0, 1), 0);
        Due.is("JAIL", x.thief(0, 0), 1);
        Due.is("the HOUR goes on", x.about(5), 2);
        Due.is("who is in JAIL can't", x.theft(0, 0, 2, 1), -1);
        Due.is("unlawful", x.theft(1, 0, 2, 0), 0);
        Due.is("a CRIME", x.thief(1, 1), 1);
        Due.is("moved", x.has(1, true), 2);
        Due.is("next NIGHT", x.about(4), 1);
        Due.is("HOUR 0", x.about(5), 0);
        Due.is("out of JAIL", x.about(7), 0);
        Due.is("CRIMES stay", x.about(8), 1);
    }

    private static void jail() {
        BetterThieves x = Due.city("night 2;kind a;thing u of a weight 1 worth 1;house h lock 1 watch 0 watch 1 has u;"
                + "thief p sack 5 skill 1;thief q sack 5 skill 1;thief r sack 5 skill 1;");
        Due.is("caught", x.theft(2, 0, 1, 0), 2);
        Due.is("bits", x.about(7), 4);
        Due.is("caught in the last HOUR", x.theft(0, 0, 1, 0), 2);
        Due.is("it is the next NIGHT", x.about(7), 0);
        Due.is("caught", x.theft(1, 0, 1, 0), 2);
        Due.is("bits", x.about(7), 2);
        Due.is("undo", x.undo(), true);
        Due.is("bits", x.about(7), 0);
        Due.is("undo", x.undo(), true);
        Due.is("bits", x.about(7), 4);
        Due.is("NIGHT", x.about(4), 0);
    }

    private static void nights() {
        BetterThieves x = Due.city("night 1;kind a;thing u of a weight 1 worth 1;house h lock 1 has u;"
                + "thief p sack 5 skill 1;");
        for (int i = 1; i <= 199; i++) {
            Due.is("waits", x.waits(), 0);
            Due.is("NIGHT", x.about(4), i);
        }
        Due.is("theft in NIGHT 199", x.theft(0, 0, 1, 0), 0);
        Due.is("waits in NIGHT 200", x.waits(), -1);
        x.gift(0, 0, false);
        Due.is("theft in NIGHT 200", x.theft(0, 0, 1, 0), -1);
        Due.is("may in NIGHT 200", x.may(0, 0, 1, 0, 0), 1);
        Due.is("ACTS", x.about(9), 40);
        Due.is("undo", x.undo(), true);
        Due.is("undo", x.undo(), true);
        Due.is("NIGHT", x.about(4), 199);
        Due.is("redo", x.redo(), true);
        Due.is("NIGHT", x.about(4), 200);
        BetterThieves y = Due.city(CITY);
        Due.is("waits", y.waits(), 1);
        Due.is("waits", y.waits(), 2);
        Due.is("waits", y.waits(), 0);
    }

    private static void gifts() {
        BetterThieves x = Due.city(CITY + "thing n of a weight 1 worth 1;");
        Due.is("there already", x.gift(0, 0, false), false);
        Due.is("there already", x.gift(1, 0, true), false);
        Due.is("no THING", x.gift(4, 0, false), false);
        Due.is("THING -1", x.gift(-1, 0, false), false);
        Due.is("no HOUSE", x.gift(0, 2, false), false);
        Due.is("no THIEF", x.gift(0, 2, true), false);
        Due.is("HOLDER -1", x.gift(0, -1, true), false);
        Due.is("nothing done", x.about(9), 0);
        Due.is("whatever weight", x.gift(2, 0, true), true);
        Due.is("no HOUR goes by", x.about(5), 0);
        Due.is("an ACT", x.about(9), 1);
        Due.is("it is there", x.has(0, true), 6);
        Due.is("and there no more", x.has(1, false), 0);
        Due.is("from nowhere", x.gift(3, 1, false), true);
        Due.is("it is there", x.has(1, false), 8);
        Due.is("undo", x.undo(), true);
        Due.is("nowhere", x.thing(3, 3), -1);
        Due.is("the sack is too full now", x.may(0, 0, 1, 2, 0), 0);
        Due.is("to leave the heavy one does", x.may(0, 0, 1, 4, 0), 1);
    }

    private static void undo() {
        BetterThieves x = Due.city(CITY);
        Due.is("undo", x.undo(), false);
        Due.is("redo", x.redo(), false);
        x.theft(0, 0, 1, 2);
        x.waits();
        x.gift(2, 1, true);
        Due.is("to be undone", x.about(9), 3);
        Due.is("to be redone", x.about(10), 0);
        Due.is("undo", x.undo(), true);
        Due.is("gift taken back", x.has(1, true), 0);
        Due.is("undo", x.undo(), true);
        Due.is("HOUR", x.about(5), 1);
        Due.is("undo", x.undo(), true);
        Due.is("HOUR", x.about(5), 0);
        Due.is("theft taken back", x.has(0, true), 2);
        Due.is("undo", x.undo(), false);
        Due.is("to be undone", x.about(9), 0);
        Due.is("to be redone", x.about(10), 3);
        Due.is("redo", x.redo(), true);
        Due.is("theft done again", x.has(0, true), 1);
        Due.is("redo", x.redo(), true);
        Due.is("HOUR", x.about(5), 2);
        Due.is("what can't be is no ACT", x.gift(0, 0, true), false);
        Due.is("to be redone", x.about(10), 1);
        Due.is("another ACT", x.gift(0, 1, false), true);
        Due.is("to be redone", x.about(10), 0);
        Due.is("redo", x.redo(), false);
        Due.is("to be undone", x.about(9), 3);
    }

    private static void oldestGo() {
        BetterThieves x = Due.city("night 9;");
        for (int i = 0; i < 45; i++) {
            x.waits();
        }
        Due.is("NIGHT", x.about(4), 5);
        Due.is("to be undone", x.about(9), 40);
        for (int i = 44; i >= 5; i--) {
            Due.is("undo", x.undo(), true);
            Due.is("HOUR by HOUR back", 9 * x.about(4) + x.about(5), i);
        }
        Due.is("undo", x.undo(), false);
        Due.is("HOUR", x.about(5), 5);
        Due.is("NIGHT", x.about(4), 0);
        Due.is("to be redone", x.about(10), 40);
        for (int i = 6; i <= 45; i++) {
            Due.is("redo", x.redo(), true);
            Due.is("HOUR by HOUR on", 9 * x.about(4) + x.about(5), i);
        }
        Due.is("redo", x.redo(), false);
        Due.is("NIGHT", x.about(4), 5);
        Due.is("HOUR", x.about(5), 0);
        for (int i = 0; i < 10; i++) {
            x.undo();
        }
        x.waits();
        Due.is("to be undone", x.about(9), 31);
        Due.is("to be redone", x.about(10), 0);
    }

    private static void boxes() {
        BetterThieves x = Due.city(CITY);
        Due.is("nothing there", x.back(0), -1);
        Due.is("no BOX", x.image(3), -1);
        Due.is("BOX -1", x.image(-1), -1);
        Due.is("no BOX", x.back(3), -1);
        Due.is("BOX -1", x.back(-1), -1);
        x.theft(1, 0, 1, 0);
        x.theft(0, 0, 0, 0);
        x.gift(0, 0, false);
        x.theft(0, 0, 1, 2);
        Due.is("in JAIL", x.about(7), 1);
        Due.is("image", x.image(2), 0);
        x.waits();
        x.theft(1, 0, 1, 0);
        x.waits();
        x.undo();
        Due.is("image", x.image(0), 1);
        Due.is("ACTS stay at an image", x.about(9), 5);
        Due.is("back", x.back(2), 0);
        Due.is("HOUR", x.about(5), 2);
        Due.is("JAIL", x.about(7), 1);
        Due.is("CRIMES", x.about(8), 1);
        Due.is("THINGS", x.has(0, false), 1);
        Due.is("to be undone", x.about(9), 0);
        Due.is("to be redone", x.about(10), 0);
        Due.is("undo", x.undo(), false);
        x.waits();
        Due.is("undo behind it", x.undo(), true);
        Due.is("HOUR", x.about(5), 2);
        Due.is("back to the other", x.back(0), 1);
        Due.is("CRIMES", x.thief(1, 1), 2);
        Due.is("NIGHT", x.about(4), 1);
        x.gift(0, 0, false);
        Due.is("a BOX is its own", x.back(0), 1);
        Due.is("THINGS", x.has(1, true), 1);
        Due.is("still nothing there", x.back(1), -1);
        Due.is("NIGHT stays", x.about(4), 1);
    }

    private static void about() {
        BetterThieves x = Due.city(CITY + "law left>taken-(1);");
        x.theft(0, 0, 1, 0);
        x.theft(1, 0, 1, 0);
        x.gift(0, 1, false);
        x.gift(0, 0, false);
        x.theft(1, 0, 1, 0);
        x.undo();
        x.report(0, 0, 1, 0, true);
        x.later(17);
        x.feed(0, 0, 0, 0, 0);
        x.best(1);
        int[] want = {3, 2, 2, 1, 0, 1, 3, 0, 1, 3, 1, 1, 17, 20, 4, 0};
        for (int i = 0; i < want.length; i++) {
            Due.is("about(" + i + ")", x.about(i), want[i]);
        }
        Due.is("about(16)", x.about(16), -1);
        Due.is("about(-1)", x.about(-1), -1);
    }
}
