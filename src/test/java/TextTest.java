/** Promises 1 to 5: the new object, the TAPE, the text of a CITY and its FAULTS. */
public final class TextTest {
    private static final String BEGIN = "kind a;thing x of a weight 1 worth 2;thing y of a weight 1 worth 3;";

    private TextTest() {
    }

    public static void main(String[] args) {
        newObject();
        tape();
        lines();
        tokens();
        names();
        numbers();
        tooMany();
        formulas();
        faultKeepsAll();
        cityClears();
        Due.finish();
    }

    private static String times(String part, int n) {
        return part.repeat(n);
    }

    private static void newObject() {
        BetterThieves x = new BetterThieves();
        int[] want = {0, 0, 0, 0, 0, 0, 6, 0, 0, 0, 0, 0, 0, 0, 0, 0};
        for (int i = 0; i < want.length; i++) {
            Due.is("new, about(" + i + ")", x.about(i), want[i]);
        }
        Due.is("new, fault(0)", x.fault(0), 0);
        Due.is("new, fault(1)", x.fault(1), BetterThieves.NONE);
        Due.is("new, thing", x.thing(0, 0), -2);
        Due.is("new, has", x.has(0, false), BetterThieves.NONE);
        Due.is("new, undo", x.undo(), false);
        Due.is("new, redo", x.redo(), false);
        Due.is("new, waits", x.waits(), 1);
        Due.is("new, rests", x.rests(), 6);
        Due.is("NONE", BetterThieves.NONE, -1);
        Due.is("GAP", BetterThieves.GAP, -1000000);
    }

    private static void tape() {
        BetterThieves x = new BetterThieves();
        Due.is("end(0)", x.end(0), 0);
        Due.is("end(1)", x.end(1), -1);
        Due.is("end(-1)", x.end(-1), -1);
        for (int i = 1; i <= 85; i++) {
            Due.is("feed " + i, x.feed(0x20202020, 0x20202020, 0x20202020, 0x20202020, 0x20202020), 20 * i);
        }
        Due.is("feed 86", x.feed(0, 0, 0, 0, 0), -1);
        Due.is("about(13)", x.about(13), 1700);
        Due.is("end(1701)", x.end(1701), -1);
        Due.is("end(1681)", x.end(1681), 1681);
        Due.is("feed behind 1681", x.feed(0, 0, 0, 0, 0), -1);
        Due.is("end(1680)", x.end(1680), 1680);
        Due.is("feed behind 1680", x.feed(0x20202020, 0x20202020, 0x20202020, 0x20202020, 0x20202020), 1700);
        Due.is("city of blanks", x.city(), 0);
        Due.is("about(13) behind it", x.about(13), 0);
        for (int i = 0; i < 85; i++) {
            x.feed(0x3b3b3b3b, 0x3b3b3b3b, 0x3b3b3b3b, 0x3b3b3b3b, 0x3b3b3b3b);
        }
        Due.is("city of 1,700 signs", x.city(), -1);
        Due.is("its fault", x.fault(0), 2);
        Due.is("its place", x.fault(1), 0);
        // the highest byte comes first, and bytes above 127 are no signs
        x.feed(('k' << 24) | ('i' << 16) | ('n' << 8) | 'd', (' ' << 24) | ('a' << 16) | (';' << 8) | 200, 0, 0, 0);
        x.end(8);
        Due.is("city with byte 200", x.city(), -1);
        Due.is("its fault", x.fault(0), 1);
        Due.is("its place", x.fault(1), 7);
    }

    private static void lines() {
        Due.sound("", 0);
        Due.sound(" \n ", 0);
        Due.sound("night 9;kind a;kind b;thing x of b weight 99 worth 99;house h lock 9 watch 0 watch 8 has x;"
                + "thief p sack 999 skill 9;dear x to p 99;dear x to h 0;law left>taken;", 1);
        Due.sound("kind a ;thing\nx of a weight 0 worth 0 ; thief t sack 0 skill 0 has x ;", 1);
        Due.sound("kind a;thing x of a weight1 worth2;house h lock3 watch0 watch1;", 1);
        Due.faulty("kind a", 2, 6);
        Due.faulty("kind a  ", 2, 8);
        Due.faulty("kind", 2, 4);
        Due.faulty(";", 2, 0);
        Due.faulty("kind a;;", 2, 7);
        Due.faulty("kind a;5", 2, 7);
        Due.faulty("kind a;of", 2, 7);
        Due.faulty("x", 2, 0);
        Due.faulty("kind ;", 2, 5);
        Due.faulty("kind a b;", 2, 7);
        Due.faulty("kind 5;", 2, 5);
        Due.faulty(BEGIN + "thing z weight", 2, BEGIN.length() + 8);
        Due.faulty("house h watch 1;", 2, 8);
        Due.faulty(BEGIN + "house h lock 1 has x watch 1;", 2, BEGIN.length() + 21);
        Due.faulty(BEGIN + "thief p sack 1 has x;", 2, BEGIN.length() + 15);
        Due.faulty(BEGIN + "thief p sack 1 skill 1 watch 1;", 2, BEGIN.length() + 23);
        Due.faulty(BEGIN + "dear x h 1;", 2, BEGIN.length() + 7);
        Due.faulty(BEGIN + "house h lock 1;dear x to h ;", 2, BEGIN.length() + 27);
        Due.faulty("night 3;night 3;", 2, 8);
        Due.faulty("kind a;night 3;", 2, 7);
        Due.faulty("law 1;law 2;", 2, 6);
        Due.faulty("night ;", 2, 6);
    }

    private static void tokens() {
        Due.faulty("#", 1, 0);
        Due.faulty("kind a;\t", 1, 7);
        Due.faulty("kind A;", 1, 5);
        Due.faulty("kind a&", 1, 6);
        Due.sound("kind abcdefgh;", 0);
        Due.faulty("kind abcdefghi;", 1, 5);
        Due.faulty("law 12345;", 1, 4);
        Due.sound("law 9999;", 0);
        Due.faulty("law 12a;", 1, 4);
        Due.faulty("house h lock 3watch 0;", 1, 13);
        Due.faulty("law 00001;", 1, 4);
        Due.sound("law 0001;", 0);
        // a FAULT ahead of it is told first
        Due.faulty("kind a;piano #", 2, 7);
        Due.faulty("kind a;kind a#", 3, 12);
        // what looks like two words is one
        Due.faulty("kinda;", 2, 0);
    }

    private static void names() {
        for (String word : new String[] {"kind", "thing", "of", "weight", "worth", "house", "lock", "watch", "has",
            "thief", "sack", "skill", "dear", "to", "law", "night", "or", "and", "not", "taken", "left", "took",
            "gave", "alike", "hour"}) {
            Due.faulty("kind " + word + ";", 2, 5);
        }
        Due.sound("kind e;kind line;kind things;kind n;kind city;", 0);
        Due.sound("kind ab;kind ba;kind b;kind aab;kind aba;kind z;", 0);
        Due.sound("kind zzzzzzzz;kind zzzzzzza;kind azzzzzzz;", 0);
        Due.faulty("kind a;kind a;", 3, 12);
        Due.faulty(BEGIN + "thing x of", 3, BEGIN.length() + 6);
        Due.faulty("house h lock 1;house h lock 1;", 3, 21);
        Due.faulty("thief h sack 1 skill 1;house h lock 1;", 3, 29);
        // KINDS, THINGS and HOLDERS are sorts of their own
        Due.sound("kind a;thing a of a weight 1 worth 1;house a lock 1 has a;", 1);
        Due.faulty("kind a;thing x of b weight", 5, 18);
        Due.faulty(BEGIN + "house h lock 1 has z;", 5, BEGIN.length() + 19);
        Due.faulty(BEGIN + "house h lock 1 has of;", 2, BEGIN.length() + 19);
        Due.faulty(BEGIN + "house h lock 1 has x;thief p sack 1 skill 1 has y has x;", 3, BEGIN.length() + 54);
        Due.faulty(BEGIN + "house h lock 1 has x has x;", 3, BEGIN.length() + 25);
        Due.faulty(BEGIN + "house h lock 1;dear z to h 1;", 5, BEGIN.length() + 20);
        Due.faulty(BEGIN + "house h lock 1;dear a to h 1;", 5, BEGIN.length() + 20);
        Due.faulty(BEGIN + "house h lock 1;dear x to x 1;", 5, BEGIN.length() + 25);
        Due.faulty(BEGIN + "dear x to h 1;house h lock 1;", 5, BEGIN.length() + 10);
        Due.faulty(BEGIN + "house h lock 1;dear x to h 1;dear y to h 1;dear x to h 1;", 3, BEGIN.length() + 53);
        Due.faulty("house h lock 1 has x;kind a;thing x of a weight 1 worth 1;", 5, 19);
    }

    private static void numbers() {
        Due.faulty("night 0;", 4, 6);
        Due.faulty("night 10;", 4, 6);
        Due.sound("night 1;house h lock 0 watch 0;", 0);
        Due.faulty("night 1;house h lock 0 watch 1;", 4, 29);
        Due.faulty("house h lock 10;", 4, 13);
        Due.faulty("house h lock 1 watch 6;", 4, 21);
        Due.sound("house h lock 1 watch 5;", 0);
        Due.faulty("house h lock 1 watch 5 watch 0 watch 5;", 3, 37);
        Due.sound("house h lock 1 watch 5;house g lock 1 watch 5;", 0);
        Due.faulty("thief p sack 1000 skill 1;", 4, 13);
        Due.faulty("thief p sack 999 skill 10;", 4, 23);
        Due.faulty("kind a;thing x of a weight 100 worth 1;", 4, 27);
        Due.faulty("kind a;thing x of a weight 99 worth 100;", 4, 36);
        Due.faulty(BEGIN + "house h lock 1;dear x to h 100;", 4, BEGIN.length() + 27);
    }

    private static void tooMany() {
        StringBuilder kinds = new StringBuilder();
        for (char c = 'a'; c < 'g'; c++) {
            kinds.append("kind ").append(c).append(";");
        }
        Due.sound(kinds.toString(), 0);
        Due.faulty(kinds + "kind g;", 2, kinds.length());
        StringBuilder things = new StringBuilder("kind a;");
        for (char c = 'a'; c < 'k'; c++) {
            things.append("thing ").append(c).append(" of a weight 1 worth 1;");
        }
        Due.sound(things.toString(), 10);
        Due.faulty(things + "thing k of a weight 1 worth 1;", 2, things.length());
        StringBuilder houses = new StringBuilder();
        for (char c = 'a'; c < 'f'; c++) {
            houses.append("house ").append(c).append(" lock 1;");
        }
        Due.sound(houses.toString(), 0);
        Due.faulty(houses + "house f lock 1;", 2, houses.length());
        StringBuilder thieves = new StringBuilder();
        for (char c = 'p'; c < 't'; c++) {
            thieves.append("thief ").append(c).append(" sack 1 skill 1;");
        }
        Due.sound(thieves.toString(), 0);
        Due.sound(houses.toString() + thieves, 0);
        Due.faulty(thieves + "thief t sack", 2, thieves.length());
        StringBuilder dears = new StringBuilder(things + "house h lock 1;house g lock 1;thief p sack 1 skill 1;");
        for (char c = 'a'; c < 'k'; c++) {
            dears.append("dear ").append(c).append(" to h 1;dear ").append(c).append(" to p 1;");
        }
        Due.sound(dears.toString(), 10);
        Due.faulty(dears + "dear a to g 1;", 2, dears.length());
    }

    private static void formulas() {
        Due.sound("law not (taken+1)*2-left/took%gave<alike and hour or skill;", 0);
        Due.sound("law not not not not not not not 1;", 0);
        Due.faulty("law not not not not not not not not 1;", 2, 32);
        Due.sound("law (((((((1)))))));", 0);
        Due.faulty("law ((((((((1", 2, 11);
        Due.faulty("law not(not(not(not 1)));law", 2, 25);
        Due.sound("law not(not(not(not 1)));", 0);
        Due.faulty("law not(not(not(not(1))));", 2, 19);
        Due.faulty("law (((((((not 1)))))));", 2, 11);
        Due.sound("law (((((((1+2*3)))))));", 0);
        Due.sound("law 1" + times("+1", 29) + ";", 0);
        Due.faulty("law 1" + times("+1", 30) + ";", 2, 64);
        // a unit ( e ) is one, and so are those in it
        Due.sound("law (1)" + times("+1", 28) + ";", 0);
        Due.faulty("law (1)" + times("+1", 29) + ";", 2, 64);
        Due.faulty("law 1" + times("+1", 29) + "+(1);", 2, 64);
        Due.sound("law " + times("not not not not not not not 1 and ", 29) + "1;", 0);
        Due.faulty("law", 2, 3);
        Due.faulty("law ;", 2, 4);
        Due.faulty("law 1+;", 2, 6);
        Due.faulty("law 1 2;", 2, 6);
        Due.faulty("law (1;", 2, 6);
        Due.faulty("law 1);", 2, 5);
        Due.faulty("law ();", 2, 5);
        Due.faulty("law 1<2>3;", 2, 7);
        Due.faulty("law -1;", 2, 4);
        Due.faulty("law 1+not 1;", 2, 6);
        Due.faulty("law 1<not 1;", 2, 6);
        Due.faulty("law not;", 2, 7);
        Due.faulty("law x;", 2, 4);
        Due.faulty("law worth;", 2, 4);
        Due.faulty("law 1 and;", 2, 9);
        BetterThieves x = Due.city("law left+alike>taken and (hour<2);");
        Due.is("units", x.about(14), 6);
    }

    private static void faultKeepsAll() {
        BetterThieves x = Due.city("night 3;" + BEGIN + "house h lock 1 has x;thief p sack 9 skill 1 has y;law left;");
        x.waits();
        x.image(1);
        x.report(0, 0, 1, 0, true);
        x.later(5);
        x.best(0);
        Due.feed(x, "kind b;kind c;law 1+1;house");
        Due.is("city", x.city(), -1);
        Due.is("fault(0)", x.fault(0), 2);
        Due.is("fault(1)", x.fault(1), 27);
        int[] want = {2, 1, 1, 1, 0, 1, 3, 0, 0, 1, 0, 1, 5, 0, 1, 3};
        for (int i = 0; i < want.length; i++) {
            Due.is("behind a FAULT, about(" + i + ")", x.about(i), want[i]);
        }
        Due.is("who", x.who(1), 0);
        Due.is("has", x.has(0, false), 1);
        Due.is("law", x.may(0, 0, 1, 2, 2), 1);
        Due.feed(x, "");
        Due.is("city", x.city(), 0);
        Due.is("fault(0)", x.fault(0), 0);
        Due.is("fault(1)", x.fault(1), -1);
    }

    private static void cityClears() {
        String text = "night 3;" + BEGIN + "house h lock 1 has x;thief p sack 9 skill 1 has y;law left;";
        BetterThieves x = Due.city(text);
        x.theft(0, 0, 1, 0);
        x.waits();
        x.undo();
        x.image(1);
        x.report(0, 0, 1, 0, true);
        x.later(5);
        x.back(1);
        x.waits();
        x.best(0);
        Due.feed(x, text);
        Due.is("city", x.city(), 2);
        int[] want = {2, 1, 1, 1, 0, 0, 3, 0, 0, 0, 0, 0, 5, 0, 1, 0};
        for (int i = 0; i < want.length; i++) {
            Due.is("behind city, about(" + i + ")", x.about(i), want[i]);
        }
        Due.is("back", x.back(1), -1);
        Due.is("who", x.who(1), -1);
        Due.is("thing", x.thing(0, 3), 0);
        Due.is("crimes", x.thief(0, 1), 0);
        // nothing of the CITY before is left
        Due.feed(x, BEGIN + "house h lock 1 has x;thief p sack 9 skill 1 has y;");
        x.city();
        Due.is("hours", x.about(6), 6);
        Due.is("units", x.about(14), 0);
        Due.is("law", x.may(0, 0, 1, 2, 2), 1);
        Due.is("law without left", x.may(0, 0, 1, 0, 2), 0);
    }
}
