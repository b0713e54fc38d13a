/** Promises 6 to 12: what there is, and what may be done. */
public final class HoldTest {
    private static final String CITY = "night 4;kind a;kind b;"
            + "thing u of a weight 10 worth 5;thing v of b weight 20 worth 7;thing w of a weight 30 worth 9;"
            + "thing x of b weight 1 worth 2;thing y of a weight 2 worth 3;thing z of b weight 3 worth 4;"
            + "thing n of b weight 99 worth 99;"
            + "house h lock 9 watch 0 watch 2 has u has v has w;house g lock 2;"
            + "thief p sack 36 skill 0 has x has y has z;thief q sack 999 skill 7;"
            + "dear u to h 50;dear u to q 60;dear x to p 70;dear n to g 0;";

    private HoldTest() {
    }

    public static void main(String[] args) {
        things();
        worths();
        thieves();
        minutes();
        may();
        law();
        Due.finish();
    }

    private static void things() {
        BetterThieves x = Due.city(CITY);
        Due.is("about(0)", x.about(0), 7);
        int[][] want = {{0, 10, 5, 0, -1}, {1, 20, 7, 0, -1}, {0, 30, 9, 0, -1}, {1, 1, 2, -1, 0}, {0, 2, 3, -1, 0},
            {1, 3, 4, -1, 0}, {1, 99, 99, -1, -1}};
        for (int t = 0; t < 7; t++) {
            for (int what = 0; what < 5; what++) {
                Due.is("thing(" + t + ", " + what + ")", x.thing(t, what), want[t][what]);
            }
            Due.is("thing(" + t + ", 5)", x.thing(t, 5), -2);
            Due.is("thing(" + t + ", -1)", x.thing(t, -1), -2);
        }
        Due.is("thing(7, 0)", x.thing(7, 0), -2);
        Due.is("thing(-1, 0)", x.thing(-1, 0), -2);
        Due.is("thing(max, 3)", x.thing(Integer.MAX_VALUE, 3), -2);
        x.gift(0, 1, true);
        Due.is("given to q, its THIEF", x.thing(0, 4), 1);
        Due.is("given to q, its HOUSE", x.thing(0, 3), -1);
    }

    private static void worths() {
        BetterThieves x = Due.city(CITY);
        Due.is("dear to a HOUSE", x.worth(0, 0, false), 50);
        Due.is("not dear to a HOUSE", x.worth(0, 1, false), 5);
        Due.is("dear to a THIEF", x.worth(0, 1, true), 60);
        Due.is("not dear to a THIEF", x.worth(0, 0, true), 5);
        Due.is("dear 0", x.worth(6, 1, false), 0);
        Due.is("no THING", x.worth(7, 0, false), -1);
        Due.is("no THING", x.worth(-1, 0, false), -1);
        Due.is("no HOUSE", x.worth(0, 2, false), -1);
        Due.is("no THIEF", x.worth(0, 2, true), -1);
        Due.is("no HOLDER", x.worth(0, -1, true), -1);
        Due.is("has a HOUSE", x.has(0, false), 7);
        Due.is("has none", x.has(1, false), 0);
        Due.is("has a THIEF", x.has(0, true), 56);
        Due.is("has no HOUSE", x.has(2, false), -1);
        Due.is("has no THIEF", x.has(2, true), -1);
        Due.is("has -1", x.has(-1, false), -1);
        Due.is("sum of a HOUSE", x.sum(0, false), 66);
        Due.is("sum of none", x.sum(1, false), 0);
        Due.is("sum of a THIEF", x.sum(0, true), 77);
        Due.is("sum of no THIEF", x.sum(2, true), -1);
        Due.is("sum of no HOUSE", x.sum(-1, false), -1);
    }

    private static void thieves() {
        BetterThieves x = Due.city(CITY);
        Due.is("thief(0, 0)", x.thief(0, 0), 0);
        Due.is("thief(0, 1)", x.thief(0, 1), 0);
        Due.is("thief(0, 2)", x.thief(0, 2), 6);
        Due.is("thief(1, 2)", x.thief(1, 2), 0);
        Due.is("thief(0, 3)", x.thief(0, 3), -1);
        Due.is("thief(0, -1)", x.thief(0, -1), -1);
        Due.is("thief(2, 0)", x.thief(2, 0), -1);
        Due.is("thief(-1, 0)", x.thief(-1, 0), -1);
        Due.is("caught", x.theft(1, 0, 1, 0), 2);
        Due.is("thief(1, 0)", x.thief(1, 0), 1);
        Due.is("crimes", x.theft(0, 0, 1, 0), 0);
        Due.is("thief(0, 1)", x.thief(0, 1), 1);
        Due.is("thief(1, 1)", x.thief(1, 1), 0);
        Due.is("thief(0, 2)", x.thief(0, 2), 16);
        x.gift(6, 1, true);
        Due.is("thief(1, 2)", x.thief(1, 2), 99);
    }

    private static void minutes() {
        BetterThieves x = Due.city(CITY);
        for (int n = 1; n <= 6; n++) {
            Due.is("lock 9, skill 0", x.minutes(0, 0, n), 9 + 2 * n);
            Due.is("lock 9, skill 7", x.minutes(1, 0, n), 2 + 2 * n);
            Due.is("lock 2, skill 7", x.minutes(1, 1, n), 1 + 2 * n);
        }
        Due.is("0 THINGS", x.minutes(0, 0, 0), -1);
        Due.is("7 THINGS", x.minutes(0, 0, 7), -1);
        Due.is("no THIEF", x.minutes(2, 0, 1), -1);
        Due.is("no HOUSE", x.minutes(0, 2, 1), -1);
        Due.is("THIEF -1", x.minutes(-1, 0, 1), -1);
        Due.is("HOUSE -1", x.minutes(0, -1, 1), -1);
    }

    private static void may() {
        BetterThieves x = Due.city(CITY);
        // 9 and 2 * 3 are 15 MINUTES, 9 and 2 * 4 are more
        Due.is("15 MINUTES", x.may(0, 0, 1, 24, 0), 1);
        Due.is("17 MINUTES", x.may(0, 0, 1, 56, 0), 0);
        // a sack of 36: 6 - 1 + 30 and 6 + 30 do, with 1 + 2 + 3 + 30 it is full
        Due.is("sack full", x.may(0, 0, 4, 0, 0), 1);
        Due.is("sack too small", x.may(0, 0, 5, 0, 0), 0);
        Due.is("what is LEFT makes room", x.may(0, 0, 3, 8, 0), 1);
        Due.is("three for none", x.may(1, 0, 7, 0, 0), 1);
        Due.is("SEEN", x.may(0, 0, 1, 8, 1), 1);
        x.waits();
        Due.is("not SEEN", x.may(0, 0, 1, 8, 1), 0);
        Due.is("LAWFUL", x.may(0, 0, 2, 16 | 32, 2), 0);
        Due.is("LAWFUL", x.may(0, 0, 2, 8 | 16 | 32, 2), 1);
        Due.is("what 3", x.may(0, 0, 1, 8, 3), -1);
        Due.is("what -1", x.may(0, 0, 1, 8, -1), -1);
        Due.is("nothing TAKEN", x.may(0, 0, 0, 8, 0), -1);
        Due.is("not there", x.may(0, 0, 8, 16, 0), -1);
        Due.is("not in STOCK", x.may(0, 0, 1, 2, 0), -1);
        Due.is("no THING", x.may(0, 0, 128, 8, 0), -1);
        Due.is("nowhere", x.may(0, 0, 64, 8, 0), -1);
        Due.is("below 0", x.may(0, 0, -1, 8, 0), -1);
        Due.is("below 0", x.may(0, 0, 1, Integer.MIN_VALUE, 0), -1);
        Due.is("no THIEF", x.may(2, 0, 1, 8, 0), -1);
        Due.is("no HOUSE", x.may(0, 2, 1, 8, 0), -1);
        Due.is("THIEF -1", x.may(-1, 0, 1, 8, 0), -1);
        Due.is("HOUSE -1", x.may(0, -1, 1, 8, 0), -1);
        Due.is("HOUSE max", x.may(0, Integer.MAX_VALUE, 1, 8, 0), -1);
        x.gift(3, 0, false);
        Due.is("four TAKEN", x.may(1, 0, 15, 0, 0), -1);
        Due.is("three TAKEN", x.may(1, 0, 14, 0, 0), 1);
        x.gift(6, 0, true);
        x.gift(3, 0, true);
        Due.is("four LEFT", x.may(0, 0, 1, 8 | 16 | 32 | 64, 2), -1);
        Due.is("three LEFT", x.may(0, 0, 1, 16 | 32 | 64, 2), 1);
        x.waits();
        x.theft(1, 0, 1, 0);
        Due.is("in JAIL", x.may(1, 0, 1, 0, 0), 0);
        Due.is("in JAIL it is LAWFUL or not all the same", x.may(1, 0, 1, 0, 2), 0);
    }

    private static void formula(String formula, int want) {
        String city = "kind a;kind b;thing u of a weight 1 worth 5;thing v of b weight 1 worth 7;"
                + "thing w of a weight 1 worth 11;thing x of a weight 1 worth 13;thing y of b weight 1 worth 17;"
                + "house h lock 1 has u has v;thief p sack 99 skill 4 has w has x has y;dear w to h 12;law ";
        BetterThieves x = Due.city(city + formula + ";");
        x.waits();
        x.waits();
        // u (5) is taken for w (12), x (13) and y (17): 42
        Due.is("law " + formula, x.may(0, 0, 1, 28, 2), want);
    }

    private static void law() {
        formula("taken=5", 1);
        formula("left=42", 1);
        formula("took=1 and gave=3", 1);
        formula("alike=2", 1);
        formula("hour=2", 1);
        formula("skill=4", 1);
        formula("left", 1);
        formula("taken-5", 0);
        formula("1-2", 1);
        formula("left/taken=8 and left%taken=2", 1);
        formula("left/(taken-5)", 0);
        formula("left%(taken-5)", 0);
        formula("not left%(taken-5)", 1);
        formula("(0-left)/taken=0-8 and (0-left)%taken=0-2", 1);
        formula("1+2*3=7", 1);
        formula("(1+2)*3=9", 1);
        formula("9-3-2=4", 1);
        formula("100/10/5=2", 1);
        formula("100%7*5=10", 1);
        formula("(3 or 0)+(3 and 7)=2", 1);
        formula("(not 7)+(not 0)=1", 1);
        formula("not 1+1=3", 1);
        formula("not 1+1=2", 0);
        formula("0 and 0 or 1", 1);
        formula("1 or 0 and 0", 1);
        formula("1 and 0 or 0", 0);
        formula("(1<2)+(2<1)+(2>1)+(1>2)+(1=1)=3", 1);
        // 999,700,029,999 and 2,199,560,022 wrap below 0
        formula("9999*9999*9999<0", 1);
        formula("9999*9999*22<0", 1);
        formula("not not 5", 1);
        formula("not not 5=1", 0);
        formula("(not not 5)=1", 1);
        formula("2", 1);
        formula("0", 0);
        // without law what is LEFT must be more, not as much
        BetterThieves x = Due.city("kind a;thing u of a weight 1 worth 5;thing v of a weight 1 worth 5;"
                + "thing w of a weight 1 worth 6;house h lock 1 has u;thief p sack 9 skill 1 has v has w;dear v to p 9;");
        Due.is("as much", x.may(0, 0, 1, 2, 2), 0);
        Due.is("more", x.may(0, 0, 1, 4, 2), 1);
    }
}
