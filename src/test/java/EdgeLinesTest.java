/** The bounds that "Terms" names for the lines of a CITY, sentence by sentence. */
public final class EdgeLinesTest {
    private EdgeLinesTest() {
    }

    public static void main(String[] args) {
        forms();
        night();
        nightFirst();
        kinds();
        things();
        thingNumbers();
        houses();
        watches();
        thieves();
        stocks();
        oneSort();
        dears();
        lawOnce();
        toldAhead();
        numbered();
        full();
        Due.finish();
    }

    /** A number from 0 (or 1) to the most; more is FAULT 4 at its place. */
    private static void range(String before, int least, int most, String behind, int things) {
        Due.sound(before + least + behind, things);
        Due.sound(before + most + behind, things);
        Due.faulty(before + (most + 1) + behind, 4, before.length());
        Due.faulty(before + "9999" + behind, 4, before.length());
        if (least > 0) {
            Due.faulty(before + (least - 1) + behind, 4, before.length());
        }
        // no sign is part of a number
        Due.faulty(before + "-1" + behind, 2, before.length());
    }

    private static void forms() {
        Due.by("line = kind NAME ; | thing NAME of NAME weight N worth N ; | house NAME lock N {watch N} {has NAME} ; "
                + "| thief NAME sack N skill N {has NAME} ; | dear NAME to NAME N ; | law e ; | night N ;.");
        // of {} none, one, many
        for (int watches = 0; watches <= 6; watches++) {
            for (int things = 0; things <= 3; things++) {
                String house = Texts.things(3) + "house h lock 1" + Texts.watches(watches) + Texts.has(0, things - 1);
                Due.sound(house + ";", 3);
                Due.is("it has", Due.city(house + ";").has(0, false), (1 << things) - 1);
                if (things > 0) {
                    Due.faulty(house + " watch 5;", 2, house.length() + 1);
                }
                Due.faulty(house, 2, house.length());
            }
        }
        for (int things = 0; things <= 3; things++) {
            String thief = Texts.things(3) + "thief p sack 1 skill 1" + Texts.has(0, things - 1);
            Due.is("he has", Due.city(thief + ";").has(0, true), (1 << things) - 1);
            Due.faulty(thief + " watch 1;", 2, thief.length() + 1);
        }
        // in any order, as far as what is named is told ahead
        Due.sound("law 1;thief p sack 1 skill 1;house h lock 1;kind b;kind a;thing x of a weight 1 worth 1;"
                + "dear x to p 1;house g lock 1 has x;dear x to g 1;thing y of b weight 1 worth 1;", 2);
    }

    private static void night() {
        Due.by("(1 .. 9 HOURS; 6 if it is not told)");
        range("night ", 1, 9, ";", 0);
        for (int n = 1; n <= 9; n++) {
            BetterThieves x = Due.city("night " + n + ";");
            Due.is("HOURS", x.about(6), n);
            for (int i = 1; i < n; i++) {
                Due.is("waits", x.waits(), i);
                Due.is("NIGHT", x.about(4), 0);
            }
            Due.is("waits", x.waits(), 0);
            Due.is("NIGHT", x.about(4), 1);
        }
        Due.is("not told", Due.city("kind a;").about(6), 6);
        Due.is("not told", Due.city("").about(6), 6);
        Due.is("not told", new BetterThieves().about(6), 6);
        Due.is("told before, not now", behind("night 9;", "kind a;").about(6), 6);
    }

    private static BetterThieves behind(String first, String then) {
        BetterThieves x = Due.city(first);
        Due.feed(x, then);
        x.city();
        return x;
    }

    private static void nightFirst() {
        Due.by("night once, ahead of all others");
        String[] lines = {"night 3;", "kind ka;", Texts.things(1), "house h lock 1;", "thief p sack 1 skill 1;",
            Texts.things(1) + "house h lock 1;dear a to h 1;", "law 1;"};
        for (String line : lines) {
            Due.faulty(line + "night 3;", 2, line.length());
            Due.faulty(line + " \nnight", 2, line.length() + 2);
        }
        Due.sound(" \n night 3;kind a;", 0);
        Due.faulty("night 3 night 3;", 2, 8);
    }

    private static void kinds() {
        Due.by("At most 6 KINDS");
        for (int n = 0; n <= 6; n++) {
            Due.sound(Texts.kinds(n), 0);
            Due.is("KINDS", Due.city(Texts.kinds(n)).about(3), n);
        }
        int end = Texts.kinds(6).length();
        Due.faulty(Texts.kinds(6) + "kind kg;", 2, end);
        Due.faulty(Texts.kinds(6) + " kind", 2, end + 1);
        Due.faulty(Texts.kinds(6) + "kind ka;", 2, end);
        Due.faulty(Texts.kinds(6) + "kind #", 2, end);
    }

    private static void things() {
        Due.by("10 THINGS (of a KIND told ahead; weight 0 .. 99, worth 0 .. 99)");
        for (int n = 0; n <= 10; n++) {
            Due.sound(Texts.things(n), n);
        }
        int end = Texts.things(10).length();
        Due.faulty(Texts.things(10) + "thing k of ka weight 1 worth 1;", 2, end);
        Due.faulty(Texts.things(10) + "\nthing a", 2, end + 1);
        for (int k = 0; k < 6; k++) {
            String text = Texts.kinds(6) + "thing x of k" + Texts.letter(k) + " weight 1 worth 1;";
            Due.is("KIND", Due.city(text).thing(0, 0), k);
        }
        Due.faulty(Texts.kinds(6) + "thing x of kg weight 1 worth 1;", 5, end("thing x of ", 6));
        Due.faulty("thing x of ka weight 1 worth 1;kind ka;", 5, 11);
    }

    private static int end(String line, int kinds) {
        return Texts.kinds(kinds).length() + line.length();
    }

    private static void thingNumbers() {
        range("kind a;thing x of a weight ", 0, 99, " worth 1;", 1);
        range("kind a;thing x of a weight 1 worth ", 0, 99, ";", 1);
        BetterThieves x = Due.city("kind a;thing x of a weight 0 worth 99;thing y of a weight 99 worth 0;");
        Due.is("weight", x.thing(0, 1), 0);
        Due.is("worth", x.thing(0, 2), 99);
        Due.is("weight", x.thing(1, 1), 99);
        Due.is("worth", x.thing(1, 2), 0);
    }

    private static void houses() {
        Due.by("5 HOUSES (lock 0 .. 9;");
        for (int n = 0; n <= 5; n++) {
            Due.sound(Texts.houses(n), 0);
            Due.is("HOUSES", Due.city(Texts.houses(n)).about(1), n);
        }
        int end = Texts.houses(5).length();
        Due.faulty(Texts.houses(5) + "house x lock 1;", 2, end);
        Due.faulty(Texts.houses(5) + "house ha lock 10;", 2, end);
        range("house h lock ", 0, 9, ";", 0);
        range("house h lock ", 0, 9, " watch 1;", 0);
        BetterThieves x = Due.city("house h lock 0;house g lock 9;thief p sack 0 skill 0;");
        Due.is("lock 0", x.minutes(0, 0, 1), 3);
        Due.is("lock 9", x.minutes(0, 1, 1), 11);
    }

    private static void watches() {
        Due.by("watch: HOURS 0 .. one less than there are, each once)");
        for (int n = 1; n <= 9; n++) {
            String night = "night " + n + ";house h lock 1";
            range(night + " watch ", 0, n - 1, ";", 0);
            Due.sound(night + Texts.watches(n) + ";", 0);
            String all = night + Texts.watches(n) + " watch ";
            for (int hour = 0; hour < n; hour++) {
                Due.faulty(all + hour + ";", 3, all.length());
            }
            Due.faulty(all + n + ";", 4, all.length());
        }
        range("house h lock 1 watch ", 0, 5, ";", 0);
        Due.sound("house h lock 1;", 0);
        // each HOUSE has a watch of its own
        Due.sound("house h lock 1" + Texts.watches(6) + ";house g lock 1" + Texts.watches(6) + ";", 0);
    }

    private static void thieves() {
        Due.by("4 THIEVES (sack 0 .. 999, skill 0 .. 9)");
        for (int n = 0; n <= 4; n++) {
            Due.sound(Texts.thieves(n), 0);
            Due.is("THIEVES", Due.city(Texts.thieves(n)).about(2), n);
        }
        int end = Texts.thieves(4).length();
        Due.faulty(Texts.thieves(4) + "thief x sack 1 skill 1;", 2, end);
        Due.faulty(Texts.thieves(4) + "thief pa sack 1000", 2, end);
        range("thief p sack ", 0, 999, " skill 1;", 0);
        range("thief p sack 1 skill ", 0, 9, ";", 0);
        Due.sound(Texts.houses(5) + Texts.thieves(4), 0);
        Due.sound(Texts.thieves(4) + Texts.houses(5), 0);
    }

    private static void stocks() {
        Due.by("has: THINGS told ahead, each at one HOLDER in all");
        String all = Texts.things(10) + "house h lock 1" + Texts.has(0, 9);
        Due.sound(all + ";", 10);
        Due.is("a HOUSE has all", Due.city(all + ";").has(0, false), 1023);
        Due.is("a THIEF has all", Due.city(Texts.things(10) + "thief p sack 0 skill 0" + Texts.has(0, 9) + ";")
                .has(0, true), 1023);
        Due.is("and his STOCK weighs more than his sack", Due.city(Texts.things(1) + "thief p sack 0 skill 0 has a;")
                .thief(0, 2), 1);
        Due.faulty(all + " has a;", 3, all.length() + 5);
        Due.faulty(all + " has j;", 3, all.length() + 5);
        Due.faulty(all + ";thief p sack 1 skill 1 has e;", 3, all.length() + 28);
        Due.faulty(all + ";house g lock 1 has e;", 3, all.length() + 20);
        Due.faulty(all + " has k;", 5, all.length() + 5);
        String late = "house h lock 1 has a;" + Texts.things(1);
        Due.faulty(late, 5, 19);
        Due.faulty("kind ka;thief p sack 1 skill 1 has ka;", 5, 35);
        Due.is("nowhere", Due.city(Texts.things(1) + Texts.houses(1) + Texts.thieves(1)).drift(0, 0), -1);
    }

    private static void oneSort() {
        Due.by("(HOUSES, THIEVES: of one sort, numbered each for itself)");
        Due.faulty("house x lock 1;thief x sack 1 skill 1;", 3, 21);
        Due.faulty("thief x sack 1 skill 1;house x lock 1;", 3, 29);
        BetterThieves x = Due.city("thief p sack 1 skill 1;house h lock 9;thief q sack 1 skill 3;house g lock 7;");
        Due.is("p at h", x.minutes(0, 0, 1), 10);
        Due.is("q at h", x.minutes(1, 0, 1), 8);
        Due.is("p at g", x.minutes(0, 1, 1), 8);
        Due.is("q at g", x.minutes(1, 1, 1), 6);
        // KINDS and THINGS are other sorts
        Due.sound("kind x;thing x of x weight 1 worth 1;house x lock 1 has x;dear x to x 1;", 1);
        Due.sound("kind x;thing x of x weight 1 worth 1;thief x sack 1 skill 1 has x;dear x to x 1;", 1);
    }

    private static void dears() {
        Due.by("20 dear (of a THING to a HOLDER, both told ahead, 0 .. 99, each two once)");
        String begin = Texts.things(10) + Texts.houses(2) + Texts.thieves(2);
        for (int n = 0; n <= 20; n++) {
            Due.sound(begin + Texts.dears(n), 10);
        }
        Due.faulty(begin + Texts.dears(21), 2, begin.length() + Texts.dears(20).length());
        Due.faulty(begin + Texts.dears(20) + "dear a to ha 1;", 2, begin.length() + Texts.dears(20).length());
        range(begin + "dear a to ha ", 0, 99, ";", 10);
        range(begin + "dear j to pb ", 0, 99, ";", 10);
        String once = begin + "dear a to ha 1;dear a to pa 1;dear b to ha 1;dear a to ";
        Due.sound(once + "hb 1;", 10);
        Due.faulty(once + "ha 1;", 3, once.length());
        Due.faulty(once + "pa 1;", 3, once.length());
        Due.faulty(once + "ha", 3, once.length());
        Due.faulty("house h lock 1;dear a to h 1;" + Texts.things(1), 5, 20);
        Due.faulty(Texts.things(1) + "dear a to ha 1;" + Texts.houses(1), 5, Texts.things(1).length() + 10);
        // as dear as it is worth, and dear 0, are told all the same
        String zero = Texts.things(1) + "house h lock 1;dear a to h 0;dear a to h 1;";
        Due.faulty(zero, 3, zero.length() - 4);
    }

    private static void lawOnce() {
        Due.by("law once;");
        Due.sound("law 0;", 0);
        Due.faulty("law 0;law 0;", 2, 6);
        Due.faulty("law 0;kind a; law", 2, 14);
        Due.faulty("law 0 law 0;", 2, 6);
        Due.sound("kind a;law 0;kind b;", 0);
    }

    private static void toldAhead() {
        // a line that is not ended has told its NAME all the same, but a FAULT leaves nothing of it
        BetterThieves x = Due.city("kind a;");
        Due.feed(x, "kind b;kind c;thing x of c weight 1 worth");
        Due.is("city", x.city(), -1);
        Due.is("KINDS", x.about(3), 1);
        Due.is("THINGS", x.about(0), 0);
        Due.feed(x, "thing x of b weight 1 worth 1;");
        Due.is("city", x.city(), -1);
        Due.is("the KIND is not there", x.fault(0), 5);
        Due.feed(x, "kind b;thing x of a weight 1 worth 1;");
        Due.is("city", x.city(), -1);
        Due.is("nor one of the CITY as it is", x.fault(0), 5);
    }

    private static void numbered() {
        Due.by("numbered as told;");
        BetterThieves x = Due.city("kind b;kind a;thing z of a weight 7 worth 1;thing y of b weight 8 worth 2;"
                + "house h lock 5 has y;house g lock 6 has z;");
        Due.is("KIND of the first", x.thing(0, 0), 1);
        Due.is("KIND of the second", x.thing(1, 0), 0);
        Due.is("weight of the first", x.thing(0, 1), 7);
        Due.is("the first is in the second HOUSE", x.thing(0, 3), 1);
        Due.is("the second in the first", x.thing(1, 3), 0);
    }

    private static void full() {
        String text = Texts.full();
        Due.sound(text, 10);
        BetterThieves x = Due.city(text + " ".repeat(1700 - text.length()));
        int[] want = {10, 5, 4, 6, 0, 0, 9, 0, 0, 0, 0, 0, 0, 0, 30, 0};
        for (int i = 0; i < want.length; i++) {
            Due.is("full, about(" + i + ")", x.about(i), want[i]);
        }
        for (String more : new String[] {"kind", "thing", "house", "thief", "dear", "law", "night"}) {
            Due.faulty(text + more, 2, text.length());
        }
    }
}
