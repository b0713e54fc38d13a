/** The edges of promises 1 to 3 and 6 to 12, and of what "Terms" says of WORTH, THEFTS and what CAN be. */
public final class EdgeHoldTest {
    private EdgeHoldTest() {
    }

    public static void main(String[] args) {
        newObject();
        feed();
        end();
        constants();
        lastThing();
        lastHolder();
        lastOfTheft();
        worth();
        whereThingsAre();
        sums();
        weights();
        minutes();
        howManyTaken();
        howManyLeft();
        sack();
        fifteenMinutes();
        jail();
        seen();
        Due.finish();
    }

    private static void newObject() {
        Due.by("`BetterThieves()`: An empty CITY.");
        BetterThieves x = new BetterThieves();
        for (int i = 0; i < 16; i++) {
            Due.is("about(" + i + ")", x.about(i), i == 6 ? 6 : 0);
        }
        Due.is("swaps", x.swaps(0), -1);
        Due.is("best", x.best(0), BetterThieves.GAP);
        Due.is("tour", x.tour(0, 0), -1);
        Due.is("drift", x.drift(0, 0), -2);
        Due.is("sums", x.sums(0, false, 0), -1);
        Due.is("unbettered", x.unbettered(0), -1);
        Due.is("loopholes", x.loopholes(), 0);
        Due.is("waits", x.waits(), 1);
        Due.is("image", x.image(0), 0);
        Due.is("who", x.who(0), 0);
        Due.is("later", x.later(1000), 1000);
        Due.is("it is the same as one that was told", new BetterThieves().city(), 0);
    }

    private static void feed() {
        Due.by("Twenty bytes come behind those on the TAPE, of each number the highest first: how many there are;");
        BetterThieves x = new BetterThieves();
        Due.is("feed", x.feed(0x6b696e64, 0x20612020, 0x20202020, 0x20202020, 0x2020203b), 20);
        Due.is("city", x.city(), 0);
        Due.is("KINDS", x.about(3), 1);
        // each of the twenty is at its place: what is none there is the FAULT
        for (int place = 0; place < 20; place++) {
            int[] five = {0x20202020, 0x20202020, 0x20202020, 0x20202020, 0x20202020};
            five[place / 4] = (int) (five[place / 4] & ~(255L << 24 - place % 4 * 8) | 0x80L << 24 - place % 4 * 8);
            Due.is("feed", x.feed(five[0], five[1], five[2], five[3], five[4]), 20);
            Due.is("city", x.city(), -1);
            Due.is("FAULT", x.fault(0), 1);
            Due.is("its place", x.fault(1), place);
        }
        for (int n : new int[] {-1, 0, Integer.MIN_VALUE, Integer.MAX_VALUE}) {
            Due.is("feed", x.feed(n, n, n, n, n), 20);
            Due.is("feed", x.feed(n, n, n, n, n), 40);
            Due.is("city", x.city(), -1);
        }
        Due.by("NONE, and nothing comes, if there would be more than 1,700.");
        for (int i = 1; i <= 84; i++) {
            blanks(x);
        }
        Due.is("bytes", x.about(13), 1680);
        Due.is("the last twenty", blanks(x), 1700);
        Due.is("more", blanks(x), -1);
        Due.is("bytes", x.about(13), 1700);
        for (int cut : new int[] {1699, 1690, 1681}) {
            Due.is("end", x.end(cut), cut);
            Due.is("more", blanks(x), -1);
            Due.is("bytes", x.about(13), cut);
        }
        Due.is("end", x.end(1680), 1680);
        Due.is("the last twenty", blanks(x), 1700);
        Due.is("city", x.city(), 0);
        Due.is("then there is room", blanks(x), 20);
    }

    private static int blanks(BetterThieves x) {
        return x.feed(0x20202020, 0x20202020, 0x20202020, 0x20202020, 0x20202020);
    }

    private static void end() {
        Due.by("The TAPE has its first n bytes: n; NONE, doing nothing, if it has not so many, or n is below 0.");
        BetterThieves x = new BetterThieves();
        Due.is("none of none", x.end(0), 0);
        Due.is("one of none", x.end(1), -1);
        Due.is("below 0", x.end(-1), -1);
        Due.feed(x, "kind a;kind b;#");
        Due.is("all", x.end(15), 15);
        Due.is("one more", x.end(16), -1);
        Due.is("bytes", x.about(13), 15);
        Due.is("the first 14", x.end(14), 14);
        Due.is("no more 15", x.end(15), -1);
        // what comes then is behind the fourteen
        x.feed(0x6b696e64, 0x20633b20, 0x20202020, 0x20202020, 0x20202020);
        Due.is("bytes", x.about(13), 34);
        Due.is("city", x.city(), 0);
        Due.is("KINDS", x.about(3), 3);
        Due.feed(x, "#");
        Due.is("none", x.end(0), 0);
        Due.is("city", x.city(), 0);
        Due.is("KINDS", x.about(3), 0);
    }

    private static void constants() {
        Due.by("`NONE = -1`: There is none.");
        Due.is("NONE", BetterThieves.NONE, -1);
        Due.by("`GAP = -1000000`: No number is there.");
        Due.is("GAP", BetterThieves.GAP, -1000000);
    }

    private static void lastThing() {
        Due.by("Of a THING what 0: its KIND, 1: weight, 2: worth, 3: the HOUSE where it is (NONE: in none), "
                + "4: the THIEF (NONE); -2 if there is none such, or for another what.");
        BetterThieves x = Due.city(Texts.full());
        for (int what = 0; what < 5; what++) {
            Due.is("thing(0, " + what + ")", x.thing(0, what), new int[] {5, 99, 99, 0, -1}[what]);
            Due.is("thing(9, " + what + ")", x.thing(9, what), new int[] {5, 99, 99, -1, -1}[what]);
            Due.is("thing(8, " + what + ")", x.thing(8, what), new int[] {5, 99, 99, -1, 3}[what]);
            Due.is("thing(10, " + what + ")", x.thing(10, what), -2);
            Due.is("thing(-1, " + what + ")", x.thing(-1, what), -2);
        }
        Due.is("thing(9, 5)", x.thing(9, 5), -2);
        Due.is("thing(9, -1)", x.thing(9, -1), -2);
        x.gift(9, 4, false);
        Due.is("in the last HOUSE", x.thing(9, 3), 4);
        Due.is("in no STOCK", x.thing(9, 4), -1);
        x.gift(9, 3, true);
        Due.is("in no HOUSE", x.thing(9, 3), -1);
        Due.is("in the last STOCK", x.thing(9, 4), 3);
    }

    private static void lastHolder() {
        Due.by("What a HOUSE (false), a THIEF (true) has, as bits; NONE if there is none such.");
        BetterThieves x = Due.city(Texts.full());
        Due.is("worth(9, 4, false)", x.worth(9, 4, false), 99);
        Due.is("worth(9, 5, false)", x.worth(9, 5, false), -1);
        Due.is("worth(9, 3, true)", x.worth(9, 3, true), 99);
        Due.is("worth(9, 4, true)", x.worth(9, 4, true), -1);
        Due.is("worth(10, 4, false)", x.worth(10, 4, false), -1);
        Due.is("has(4, false)", x.has(4, false), 16);
        Due.is("has(5, false)", x.has(5, false), -1);
        Due.is("has(3, true)", x.has(3, true), 256);
        Due.is("has(4, true)", x.has(4, true), -1);
        Due.is("sum(4, false)", x.sum(4, false), 99);
        Due.is("sum(5, false)", x.sum(5, false), -1);
        Due.is("sum(3, true)", x.sum(3, true), 99);
        Due.is("sum(4, true)", x.sum(4, true), -1);
        for (int t = 0; t < 10; t++) {
            x.gift(t, 4, false);
        }
        Due.is("all ten", x.has(4, false), 1023);
        Due.is("none", x.has(3, true), 0);
        Due.is("none", x.has(0, false), 0);
    }

    private static void lastOfTheft() {
        Due.by("Whether a THEFT (sets as bits) what 0: CAN be, 1: is SEEN now, 2: is LAWFUL now: 1, else 0;");
        BetterThieves x = Due.city(Texts.full());
        Due.is("thief(3, 2)", x.thief(3, 2), 99);
        Due.is("thief(4, 2)", x.thief(4, 2), -1);
        Due.is("thief(3, 3)", x.thief(3, 3), -1);
        Due.is("minutes(3, 4, 6)", x.minutes(3, 4, 6), 13);
        Due.is("minutes(4, 4, 6)", x.minutes(4, 4, 6), -1);
        Due.is("minutes(3, 5, 6)", x.minutes(3, 5, 6), -1);
        Due.is("may(3, 4, 16, 256, 1)", x.may(3, 4, 16, 256, 1), 1);
        Due.is("may(3, 5, 16, 256, 1)", x.may(3, 5, 16, 256, 1), -1);
        Due.is("may(4, 4, 16, 256, 1)", x.may(4, 4, 16, 256, 1), -1);
        Due.is("theft(4, 4, 16, 256)", x.theft(4, 4, 16, 256), -1);
        Due.is("theft(3, 4, 16, 256)", x.theft(3, 4, 16, 256), 2);
        Due.is("about(7)", x.about(7), 8);
        // each of the three, or not, whatever the others are: HOUSE 1 is watched, p is weak, b is worth more
        BetterThieves y = Due.city(Texts.worths(5, 5, 4, 6) + "house ha lock 0 has a;house hb lock 0 watch 0 has b;"
                + "thief p sack 0 skill 0 has c;thief q sack 9 skill 0 has d;");
        for (int thief = 0; thief < 2; thief++) {
            for (int house = 0; house < 2; house++) {
                int left = thief == 0 ? 4 : 8;
                Due.is("CAN", y.may(thief, house, 1 << house, left, 0), thief);
                Due.is("SEEN", y.may(thief, house, 1 << house, left, 1), house);
                Due.is("LAWFUL", y.may(thief, house, 1 << house, left, 2), thief);
                Due.is("for none", y.may(thief, house, 1 << house, 0, 2), 0);
            }
        }
    }

    private static void worth() {
        Due.by("WORTH of a THING to a HOLDER: as told dear, else its worth.");
        BetterThieves x = Due.city(Texts.worths(0, 99, 50) + Texts.houses(2) + Texts.thieves(2)
                + "dear a to ha 99;dear b to ha 0;dear a to pb 1;dear c to pa 50;");
        int[][] houses = {{99, 0, 50}, {0, 99, 50}};
        int[][] thieves = {{0, 99, 50}, {1, 99, 50}};
        for (int t = 0; t < 3; t++) {
            for (int h = 0; h < 2; h++) {
                Due.is("worth(" + t + ", " + h + ", false)", x.worth(t, h, false), houses[h][t]);
                Due.is("worth(" + t + ", " + h + ", true)", x.worth(t, h, true), thieves[h][t]);
            }
            Due.is("its worth stays", x.thing(t, 2), new int[] {0, 99, 50}[t]);
        }
        // the CITY told next is not dear in the same places
        Due.feed(x, Texts.worths(3, 4, 5) + Texts.houses(2) + Texts.thieves(2));
        x.city();
        Due.is("told next", x.worth(0, 0, false), 3);
        Due.is("told next", x.worth(0, 1, true), 3);
    }

    private static void whereThingsAre() {
        Due.by("Each THING is in a HOUSE, in a THIEF's STOCK, or nowhere.");
        BetterThieves x = Due.city(Texts.things(3) + "house ha lock 0;house hb lock 0 has a;thief pa sack 9 skill 0;"
                + "thief pb sack 9 skill 0 has b;");
        int[][] want = {{1, -1, 1}, {-1, 1, 11}, {-1, -1, -1}};
        for (int t = 0; t < 3; t++) {
            Due.is("HOUSE", x.thing(t, 3), want[t][0]);
            Due.is("THIEF", x.thing(t, 4), want[t][1]);
            Due.is("drift", x.drift(t, 0), want[t][2]);
        }
        Due.is("none", x.has(0, false), 0);
        Due.is("none", x.has(0, true), 0);
    }

    private static void sums() {
        Due.by("What it has is WORTH to it, together; NONE likewise.");
        BetterThieves x = Due.city(Texts.worths(99, 99, 99, 99, 99, 99, 99, 99, 99, 99) + "house h lock 0"
                + Texts.has(0, 9)
                + ";house g lock 0;thief p sack 0 skill 0;dear j to h 0;dear a to g 1;");
        Due.is("nothing", x.sum(1, false), 0);
        Due.is("nothing", x.sum(0, true), 0);
        Due.is("all", x.sum(0, false), 891);
        for (int t = 0; t < 10; t++) {
            x.gift(t, 0, true);
        }
        Due.is("all", x.sum(0, true), 990);
        Due.is("nothing", x.sum(0, false), 0);
        x.gift(0, 1, false);
        Due.is("to it", x.sum(1, false), 1);
        Due.is("no HOUSE", x.sum(2, false), -1);
        Due.is("no THIEF", x.sum(1, true), -1);
    }

    private static void weights() {
        Due.by("Of a THIEF what 0: 1 in JAIL, else 0, 1: CRIMES, 2: what his STOCK weighs;");
        BetterThieves x = Due.city(Texts.weights(99, 99, 99, 99, 99, 99, 99, 99, 99, 99) + "house h lock 0 watch 1;"
                + "thief p sack 0 skill 0;thief q sack 999 skill 0" + Texts.has(0, 9) + ";");
        Due.is("nothing", x.thief(0, 2), 0);
        Due.is("all", x.thief(1, 2), 990);
        for (int what = 0; what < 2; what++) {
            Due.is("at first", x.thief(0, what), 0);
            Due.is("at first", x.thief(1, what), 0);
        }
        x.gift(0, 0, false);
        Due.is("all but one", x.thief(1, 2), 891);
        Due.is("a CRIME", x.theft(1, 0, 1, 0), 0);
        Due.is("CRIMES of the one", x.thief(1, 1), 1);
        Due.is("and not of the other", x.thief(0, 1), 0);
        x.gift(0, 0, false);
        Due.is("CAUGHT", x.theft(1, 0, 1, 0), 2);
        Due.is("in JAIL", x.thief(1, 0), 1);
        Due.is("and not the other", x.thief(0, 0), 0);
        Due.is("no CRIME", x.thief(1, 1), 1);
    }

    private static void minutes() {
        Due.by("lock less skill, 1 at least, and 2 for each THING TAKEN or LEFT.");
        for (int lock = 0; lock <= 9; lock++) {
            StringBuilder b = new StringBuilder("house h lock " + lock + ";");
            for (int skill : new int[] {0, lock - 1, lock, lock + 1, 9}) {
                if (skill >= 0 && skill <= 9) {
                    BetterThieves x = Due.city(b + "thief p sack 0 skill " + skill + ";");
                    for (int n = 1; n <= 6; n++) {
                        int open = lock - skill < 1 ? 1 : lock - skill;
                        Due.is("lock " + lock + ", skill " + skill, x.minutes(0, 0, n), open + 2 * n);
                    }
                }
            }
        }
        Due.by("MINUTES that a THEFT of so many THINGS in all takes (1 .. 6); NONE if one can't be.");
        BetterThieves x = Due.city("house h lock 0;thief p sack 0 skill 0;");
        Due.is("0", x.minutes(0, 0, 0), -1);
        Due.is("1", x.minutes(0, 0, 1), 3);
        Due.is("6", x.minutes(0, 0, 6), 13);
        Due.is("7", x.minutes(0, 0, 7), -1);
        Due.is("-1", x.minutes(0, 0, -1), -1);
    }

    private static BetterThieves crowd() {
        return Due.city(Texts.things(10) + "house h lock 0" + Texts.has(0, 4) + ";thief p sack 99 skill 0"
                + Texts.has(5, 9) + ";");
    }

    private static void howManyTaken() {
        Due.by("a THIEF takes from a HOUSE some of its THINGS (1 to 3: TAKEN)");
        int[] sets = {0, 1, 3, 7, 15, 31, 16, 24, 28, 30};
        for (int set : sets) {
            int n = Integer.bitCount(set);
            for (int what = 0; what < 3; what++) {
                int answer = crowd().may(0, 0, set, 0, what);
                Due.is("may of " + n + " TAKEN, what " + what, answer != -1, n >= 1 && n <= 3);
            }
            BetterThieves x = crowd();
            Due.is("theft of " + n, x.theft(0, 0, set, 0), n >= 1 && n <= 3 ? 0 : -1);
            Due.is("the HOUR", x.about(5), n >= 1 && n <= 3 ? 1 : 0);
        }
    }

    private static void howManyLeft() {
        Due.by("and leaves there some of his STOCK (0 to 3: LEFT).");
        int[] sets = {0, 32, 96, 224, 480, 992, 512, 768, 896, 960};
        for (int set : sets) {
            int n = Integer.bitCount(set);
            for (int what = 0; what < 3; what++) {
                Due.is("may of " + n + " LEFT, what " + what, crowd().may(0, 0, 1, set, what) != -1, n <= 3);
            }
            BetterThieves x = crowd();
            Due.is("theft for " + n, x.theft(0, 0, 1, set), n > 3 ? -1 : n > 1 ? 1 : 0);
        }
        Due.is("three for three", crowd().may(0, 0, 28, 896, 0), 1);
        Due.is("four for three", crowd().may(0, 0, 30, 896, 0), -1);
        Due.is("three for four", crowd().may(0, 0, 28, 960, 0), -1);
    }

    private static void sack() {
        Due.by("his STOCK with it weighs no more than his sack");
        for (int sack = 29; sack <= 31; sack++) {
            BetterThieves x = Due.city(Texts.weights(20, 10, 5) + "house h lock 0 has a;thief p sack " + sack
                    + " skill 0 has b has c;law 1;");
            Due.is("10 + 5 + 20", x.may(0, 0, 1, 0, 0), sack >= 35 ? 1 : 0);
            Due.is("10 + 20", x.may(0, 0, 1, 4, 0), sack >= 30 ? 1 : 0);
            Due.is("5 + 20", x.may(0, 0, 1, 2, 0), 1);
            Due.is("as SWAPS", x.swaps(0), sack >= 30 ? 3 : 2);
            Due.is("theft", x.theft(0, 0, 1, 4), sack >= 30 ? 1 : -1);
        }
        BetterThieves none = Due.city(Texts.weights(0, 1) + "house h lock 0 has a has b;thief p sack 0 skill 0;");
        Due.is("0 in a sack of 0", none.may(0, 0, 1, 0, 0), 1);
        Due.is("1 in a sack of 0", none.may(0, 0, 2, 0, 0), 0);
        BetterThieves all = Due.city(Texts.weights(99, 99, 99, 99, 99, 99, 99, 99, 99, 99) + "house h lock 0"
                + Texts.has(0, 2) + ";thief p sack 999 skill 0" + Texts.has(3, 9) + ";thief q sack 989 skill 0;");
        Due.is("990 in a sack of 999", all.may(0, 0, 7, 0, 0), 1);
        for (int t = 3; t < 10; t++) {
            all.gift(t, 1, true);
        }
        Due.is("990 in a sack of 989", all.may(1, 0, 7, 0, 0), 0);
        Due.is("891 in a sack of 989", all.may(1, 0, 3, 0, 0), 1);
        // who has too much already can't, but for what makes it light enough
        BetterThieves heavy = Due.city(Texts.weights(1, 50, 2) + "house h lock 0 has a;"
                + "thief p sack 9 skill 0 has b has c;");
        Due.is("53", heavy.may(0, 0, 1, 0, 0), 0);
        Due.is("51", heavy.may(0, 0, 1, 4, 0), 0);
        Due.is("3", heavy.may(0, 0, 1, 2, 0), 1);
    }

    private static void fifteenMinutes() {
        Due.by("and it takes no more than 15 MINUTES:");
        int[][] sets = {{1, 0}, {1, 8}, {3, 8}, {7, 8}, {7, 24}, {7, 56}};
        for (int lock = 0; lock <= 9; lock++) {
            for (int skill : new int[] {0, 1, 5}) {
                BetterThieves x = Due.city(Texts.things(6) + "house h lock " + lock + Texts.has(0, 2)
                        + ";thief p sack 99 skill " + skill + Texts.has(3, 5) + ";law 1;");
                for (int[] s : sets) {
                    int n = Integer.bitCount(s[0]) + Integer.bitCount(s[1]);
                    int can = Math.max(1, lock - skill) + 2 * n <= 15 ? 1 : 0;
                    Due.is(n + " by lock " + lock + ", skill " + skill, x.may(0, 0, s[0], s[1], 0), can);
                }
            }
        }
        // 15 and 16: three with lock 9, six with lock 3 and with lock 4
        BetterThieves nine = Due.city(Texts.things(6) + "house h lock 9 has a has b has c;thief p sack 99 skill 0"
                + Texts.has(3, 5) + ";law 1;");
        Due.is("15", nine.may(0, 0, 1, 24, 0), 1);
        Due.is("17", nine.may(0, 0, 1, 56, 0), 0);
        Due.is("SWAPS of three", nine.swaps(0), 18);
        Due.is("theft", nine.theft(0, 0, 1, 56), -1);
        Due.is("theft", nine.theft(0, 0, 1, 24), 1);
    }

    private static void jail() {
        Due.by("It CAN be, if he is not in JAIL,");
        BetterThieves x = Due.city("night 3;" + Texts.worths(1, 2) + "house h lock 0 watch 0 has a;"
                + "thief p sack 9 skill 0 has b;"
                + "thief q sack 9 skill 0;");
        Due.is("he CAN", x.may(0, 0, 1, 2, 0), 1);
        Due.is("CAUGHT", x.theft(0, 0, 1, 2), 2);
        Due.is("he CAN't", x.may(0, 0, 1, 2, 0), 0);
        Due.is("another CAN", x.may(1, 0, 1, 0, 0), 1);
        Due.is("it is not SEEN", x.may(0, 0, 1, 2, 1), 0);
        Due.is("it is LAWFUL", x.may(0, 0, 1, 2, 2), 1);
        Due.is("SWAPS", x.swaps(0), 0);
        x.waits();
        Due.is("he CAN't", x.may(0, 0, 1, 2, 0), 0);
        x.waits();
        Due.is("he CAN in the next NIGHT", x.may(0, 0, 1, 2, 0), 1);
    }

    private static void seen() {
        Due.by("It is SEEN in an HOUR of the HOUSE's watch.");
        for (int n = 1; n <= 9; n++) {
            BetterThieves x = Due.city("night " + n + ";" + Texts.things(3) + "house ha lock 0 watch 0 has a;"
                    + "house hb lock 0 watch "
                    + (n - 1) + " has b;house hc lock 0" + Texts.watches(n) + " has c;thief p sack 9 skill 0;");
            for (int hour = 0; hour <= n + 1; hour++) {
                Due.is("HOUR 0 alone", x.may(0, 0, 1, 0, 1), hour % n == 0 ? 1 : 0);
                Due.is("the last HOUR alone", x.may(0, 1, 2, 0, 1), hour % n == n - 1 ? 1 : 0);
                Due.is("all HOURS", x.may(0, 2, 4, 0, 1), 1);
                Due.is("SEEN or not, it CAN be", x.may(0, 2, 4, 0, 0), 1);
                x.waits();
            }
        }
    }
}
