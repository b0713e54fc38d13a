/** The edges of promises 21 to 24: ROUNDS, when it RESTS, LIES. */
public final class EdgeRoundTest {
    private EdgeRoundTest() {
    }

    public static void main(String[] args) {
        hours();
        byNumber();
        gainAboveZero();
        notInJail();
        jailEnds();
        drift();
        sums();
        rests();
        restsAtSixty();
        restsByNight();
        lieHours();
        lieWorths();
        lieThings();
        lieTies();
        lieTrueWorths();
        lieThere();
        Due.finish();
    }

    /** One THING further in each HOUR that law allows: THING n is had behind n of them. */
    private static String chain(int things, String law) {
        int[] worths = new int[things];
        for (int i = 0; i < things; i++) {
            worths[i] = i;
        }
        return Texts.worths(worths) + "house ha lock 0" + Texts.has(1, things - 1) + ";thief pa sack 9 skill 0 has a;"
                + "law taken=left+1"
                + law + ";";
    }

    private static void hours() {
        Due.by("ROUNDS of n HOURS (0 .. 60):");
        BetterThieves x = Due.city("night 9;" + chain(10, " and hour=8"));
        // a move behind 9, 18, .. 54 HOURS
        for (int n = 0; n <= 60; n++) {
            int moved = n / 9;
            Due.is("behind " + n, x.drift(moved, n), 10);
            Due.is("behind " + n, x.drift(moved + 1, n), 0);
            Due.is("sums behind " + n, x.sums(0, true, n), moved);
        }
        Due.is("61", x.drift(0, 61), -2);
        Due.is("-1", x.drift(0, -1), -2);
        Due.is("61", x.sums(0, true, 61), -1);
        Due.is("-1", x.sums(0, true, -1), -1);
        Due.is("0 is now", x.drift(0, 0), 10);
        // each HOUR one, all ten behind nine
        BetterThieves y = Due.city("night 1;" + chain(10, ""));
        for (int n = 0; n <= 60; n++) {
            Due.is("behind " + n, y.sums(0, true, n), Math.min(9, n));
        }
        Due.is("nothing is done", y.has(0, true), 1);
        Due.is("nothing is done", y.about(4), 0);
    }

    private static void byNumber() {
        Due.by("in each HOUR all THIEVES by number who are not in JAIL do their BEST, if its GAIN is more than 0.");
        // the first of them takes it, the next takes what he left, in the same HOUR
        String city = Texts.worths(1, 2, 3, 4, 5) + "house ha lock 0 has a;thief pa sack 9 skill 0 has b;"
                + "thief pb sack 9 skill 0 has c;"
                + "thief pc sack 9 skill 0 has d;thief pd sack 9 skill 0 has e;"
                + "dear a to pa 90;dear b to pb 90;dear c to pc 90;dear d to pd 90;";
        BetterThieves x = Due.city(city);
        int[] want = {10, 11, 12, 13, 0};
        for (int t = 0; t < 5; t++) {
            Due.is("all four in an HOUR", x.drift(t, 1), want[t]);
            Due.is("none in no HOUR", x.drift(t, 0), t == 0 ? 0 : 9 + t);
        }
        Due.is("rests", x.rests(), 7);
        // two want the same: the first has it
        BetterThieves y = Due.city(Texts.worths(1, 2, 3) + "house ha lock 0 has a;thief pa sack 9 skill 0 has b;"
                + "thief pb sack 9 skill 0 has c;"
                + "dear a to pa 50;dear a to pb 99;");
        Due.is("the first", y.drift(0, 1), 10);
        Due.is("the first", y.drift(0, 60), 10);
        // each does one SWAP in an HOUR, not all
        BetterThieves z = Due.city(Texts.worths(1, 1, 2, 2) + "house ha lock 0 has a has b;"
                + "thief pa sack 9 skill 0 has c has d;dear a to pa 9;dear b to pa 8;");
        Due.is("one", z.drift(0, 1), 10);
        Due.is("not two", z.drift(1, 1), 0);
        Due.is("in the next", z.drift(1, 2), 10);
    }

    private static void gainAboveZero() {
        for (int gain = -1; gain <= 1; gain++) {
            BetterThieves x = Due.city(Texts.worths(1, 2) + "house ha lock 0 has a;thief pa sack 9 skill 0 has b;"
                    + "dear a to pa "
                    + (50 + gain) + ";dear b to pa 50;");
            Due.is("BEST", x.best(0), gain);
            Due.is("GAIN " + gain, x.drift(0, 60), gain > 0 ? 10 : 0);
            Due.is("rests", x.rests(), gain > 0 ? 7 : 6);
        }
    }

    private static void notInJail() {
        String city = "night 3;" + Texts.worths(1, 2, 9) + "house ha lock 0 has a;house hb lock 0 watch 0 has c;"
                + "thief pa sack 9 skill 0 has b;thief pb sack 9 skill 0;dear a to pa 50;";
        BetterThieves x = Due.city(city);
        Due.is("CAUGHT", x.theft(0, 1, 4, 2), 2);
        for (int n = 0; n <= 4; n++) {
            Due.is("in JAIL till the next NIGHT, " + n, x.drift(0, n), n >= 3 ? 10 : 0);
        }
        Due.is("rests only behind that, since as many HOURS as a NIGHT has must be", x.rests(), 6);
        BetterThieves y = Due.city(city);
        Due.is("another is CAUGHT", y.theft(1, 1, 4, 0), 2);
        Due.is("he is not in JAIL", y.drift(0, 1), 10);
    }

    private static void jailEnds() {
        // CAUGHT in the last HOUR he is free at once
        BetterThieves x = Due.city("night 2;" + Texts.worths(1, 2) + "house ha lock 0 watch 1 has a;"
                + "thief pa sack 9 skill 0 has b;dear a to pa 50;");
        x.waits();
        Due.is("CAUGHT", x.theft(0, 0, 1, 2), 2);
        Due.is("free", x.drift(0, 1), 10);
        // CAUGHT ahead of it in a NIGHT of 9: it would rest ahead of the next NIGHT, were it shorter
        BetterThieves y = Due.city("night 9;" + Texts.worths(1, 2) + "house ha lock 0 watch 0 has a;"
                + "thief pa sack 9 skill 0 has b;dear a to pa 50;");
        Due.is("CAUGHT", y.theft(0, 0, 1, 2), 2);
        Due.is("in JAIL for eight HOURS, then the watch", y.drift(0, 9), 0);
        Due.is("then", y.drift(0, 10), 10);
        Due.is("rests ahead of it", y.rests(), 9);
    }

    private static void drift() {
        Due.by("Behind ROUNDS of n HOURS where a THING is: a HOUSE's number, 10 and a THIEF's; NONE: nowhere;"
                + " -2 if one can't be.");
        BetterThieves x = Due.city(Texts.full());
        int[] want = {0, 1, 2, 3, 4, 10, 11, 12, 13, -1};
        for (int t = 0; t < 10; t++) {
            Due.is("THING " + t, x.drift(t, 0), want[t]);
            Due.is("all HOUSES are watched", x.drift(t, 60), want[t]);
        }
        Due.is("THING 10", x.drift(10, 0), -2);
        Due.is("THING -1", x.drift(-1, 0), -2);
    }

    private static void sums() {
        Due.by("Behind them what a HOUSE (false), a THIEF (true) has is WORTH to it, together; NONE if one can't be.");
        BetterThieves x = Due.city(Texts.worths(1, 2) + Texts.houses(4) + "house he lock 0 has a;" + Texts.thieves(3)
                + "thief pd sack 9 skill 0 has b;dear a to pd 50;dear b to he 60;");
        int[][] want = {{1, 2}, {60, 50}, {60, 50}};
        for (int n = 0; n < 3; n++) {
            Due.is("HOUSE 4", x.sums(4, false, n), want[n][0]);
            Due.is("THIEF 3", x.sums(3, true, n), want[n][1]);
            Due.is("HOUSE 0", x.sums(0, false, n), 0);
            Due.is("HOUSE 5", x.sums(5, false, n), -1);
            Due.is("THIEF 4", x.sums(4, true, n), -1);
            Due.is("HOLDER -1", x.sums(-1, n == 0, n), -1);
        }
    }

    private static void rests() {
        Due.by("RESTS: the first HOUR behind which (from 1 on, 60 at most) nothing was moved in as many HOURS as a "
                + "NIGHT has.");
        for (int n = 1; n <= 9; n++) {
            Due.is("nothing there", Due.city("night " + n + ";").rests(), n);
            // moves in the first k HOURS
            for (int k = 1; k <= 9; k++) {
                BetterThieves x = Due.city("night " + n + ";" + chain(k + 1, ""));
                Due.is(k + " moves, NIGHTS of " + n, x.rests(), k + n);
            }
        }
    }

    /** A move at one HOUR of each NIGHT of nine. */
    private static void restsAtSixty() {
        Due.by("RESTS; NONE if it does not.");
        for (int hour = 0; hour < 9; hour++) {
            // six moves, behind 46 + hour HOURS the last
            BetterThieves six = Due.city("night 9;" + chain(7, " and hour=" + hour));
            Due.is("the sixth behind " + (46 + hour), six.rests(), hour <= 5 ? 55 + hour : -1);
            BetterThieves five = Due.city("night 9;" + chain(6, " and hour=" + hour));
            Due.is("the fifth behind " + (37 + hour), five.rests(), 46 + hour);
        }
        BetterThieves never = Due.city("night 9;" + chain(8, " and hour=0"));
        Due.is("the seventh behind 55", never.rests(), -1);
        // two THIEVES move by turns: q takes a for c in the first HOUR, p takes c for b in the second
        BetterThieves round = Due.city("night 1;" + Texts.worths(1, 1, 1) + "house ha lock 0 has a;"
                + "thief pa sack 9 skill 0 has b;"
                + "thief pb sack 9 skill 1 has c;dear a to pa 1;dear b to pa 2;dear c to pa 3;"
                + "dear a to pb 3;dear b to pb 2;dear c to pb 1;law 1;");
        Due.is("rests", round.rests(), 3);
    }

    private static void restsByNight() {
        // from where it is now: the HOUR counts, what was done before does not
        BetterThieves x = Due.city("night 4;" + chain(2, " and hour=3"));
        Due.is("from HOUR 0", x.rests(), 4 + 4);
        x.waits();
        Due.is("from HOUR 1", x.rests(), 3 + 4);
        x.waits();
        Due.is("from HOUR 2", x.rests(), 2 + 4);
        x.waits();
        Due.is("from HOUR 3", x.rests(), 1 + 4);
        x.waits();
        Due.is("from HOUR 0", x.rests(), 4 + 4);
        // three HOURS, then the fourth: as many as a NIGHT has, not one less
        BetterThieves y = Due.city("night 4;" + chain(3, " and hour=3"));
        Due.is("two moves four HOURS apart", y.rests(), 12);
    }

    private static void lieHours() {
        Due.by("LIE of a HOUSE for n HOURS (1 .. 4):");
        // in each HOUR one of 1 .. 5 is taken for one of 10 .. 14, as a SWAP of most GAIN
        BetterThieves x = Due.city(Texts.worths(1, 2, 3, 4, 5, 10, 11, 12, 13, 14) + "house ha lock 0" + Texts.has(0, 4)
                + ";thief pa sack 9 skill 0" + Texts.has(5, 9) + ";dear a to pa 60;dear b to pa 50;dear c to pa 40;"
                + "dear d to pa 30;dear e to pa 20;"
                + "law left>taken and gave=1;");
        int[] sums = {24, 33, 42, 51};
        // a told 13 is taken for 14, b then for 10; or, of use from the third HOUR on, 10 told 0 is left for nothing
        int[] lies = {28, 36, 45, 55};
        for (int n = 1; n <= 4; n++) {
            int sum = x.sums(0, false, n);
            Due.is("without a LIE", sum, sums[n - 1]);
            Due.is("with the best LIE", x.lie(0, n, 0), lies[n - 1]);
        }
        Due.is("n 0", x.lie(0, 0, 0), -2);
        Due.is("n 5", x.lie(0, 5, 0), -2);
        Due.is("n -1", x.lie(0, -1, 0), -2);
        // at the last HOUR alone it is of use: three HOURS are not enough
        BetterThieves y = Due.city("night 4;" + Texts.worths(5, 9) + "house ha lock 0 watch 0 watch 1 watch 2 has a;"
                + "thief pa sack 9 skill 0 has b;"
                + "dear a to pa 60;law taken=7;");
        for (int n = 1; n <= 4; n++) {
            Due.is("what it has", y.lie(0, n, 0), n == 4 ? 9 : 5);
            Due.is("the THING", y.lie(0, n, 1), n == 4 ? 0 : -1);
            Due.is("the WORTH", y.lie(0, n, 2), n == 4 ? 7 : -1);
        }
    }

    private static BetterThieves lyingCity(String law) {
        return Due.city(Texts.worths(50, 60) + "house ha lock 0 has a;thief pa sack 9 skill 0 has b;dear a to pa 99;"
                + "law " + law + ";");
    }

    private static void lieWorths() {
        Due.by("it tells another WORTH (0 .. 20) of one THING to it (as law counts it there), or none:");
        for (int worth = 0; worth <= 22; worth++) {
            BetterThieves x = lyingCity("taken=" + worth);
            Due.is("only by " + worth, x.lie(0, 1, 0), worth <= 20 ? 60 : 50);
            Due.is("only by " + worth, x.lie(0, 1, 1), worth <= 20 ? 0 : -1);
            Due.is("only by " + worth, x.lie(0, 1, 2), worth <= 20 ? worth : -1);
            BetterThieves y = lyingCity("left=" + worth);
            Due.is("only by " + worth, y.lie(0, 1, 0), worth <= 20 ? 60 : 50);
            Due.is("only by " + worth, y.lie(0, 1, 1), worth <= 20 ? 1 : -1);
            Due.is("only by " + worth, y.lie(0, 1, 2), worth <= 20 ? worth : -1);
        }
        Due.is("both at once can't be told", lyingCity("taken=3 and left=4").lie(0, 1, 1), -1);
        // told in one HOUSE, it is not in another
        BetterThieves two = Due.city(Texts.worths(50, 60) + "house ha lock 0;house hb lock 0 has a;"
                + "thief pa sack 9 skill 0 has b;"
                + "dear a to pa 99;law taken=7;");
        Due.is("in its HOUSE", two.lie(1, 1, 0), 60);
        Due.is("in another", two.lie(0, 1, 0), 0);
        Due.is("in another", two.lie(0, 1, 1), -1);
    }

    private static void lieThings() {
        // told of any one of three, that one is taken for d: best is the one that is worth least to it
        for (int t = 0; t < 4; t++) {
            int[] worths = {30, 30, 30, 30};
            worths[t] = 31;
            BetterThieves x = Due.city(Texts.worths(worths) + "house ha lock 0 has a has b has c;"
                    + "thief pa sack 9 skill 0 has d;"
                    + "dear a to pa 99;dear b to pa 98;dear c to pa 97;dear d to ha 80;law taken=5 or left=5;");
            Due.is("the THING", x.lie(0, 1, 1), t == 0 ? 1 : 0);
        }
        // of a THING that is elsewhere now: c is taken in the first HOUR, and left here in the second
        BetterThieves far = Due.city(Texts.worths(50, 60, 1) + "house ha lock 0 has a;house hb lock 0 has c;"
                + "thief pa sack 9 skill 0 has b;dear a to pa 99;dear c to pa 70;dear c to ha 90;law taken=1 or left=7;");
        int[][] want = {{60, 0, 1}, {90, 2, 7}};
        for (int n = 1; n <= 2; n++) {
            for (int what = 0; what < 3; what++) {
                Due.is("for " + n + " HOURS, what " + what, far.lie(0, n, what), want[n - 1][what]);
            }
        }
        // THING 9 in the last HOUSE
        BetterThieves last = Due.city(Texts.worths(9, 9, 9, 9, 9, 9, 9, 9, 60, 50) + Texts.houses(4)
                + "house he lock 0 has j;"
                + "thief pa sack 9 skill 0 has i;dear j to pa 99;law taken=0;");
        Due.is("what it has", last.lie(4, 1, 0), 60);
        Due.is("the THING", last.lie(4, 1, 1), 9);
        Due.is("the WORTH", last.lie(4, 1, 2), 0);
        Due.is("no HOUSE", last.lie(5, 1, 0), -2);
        // nobody to hear it
        BetterThieves nobody = Due.city(Texts.worths(9, 8) + "house ha lock 0 has a has b;");
        Due.is("what it has", nobody.lie(0, 4, 0), 17);
        Due.is("none", nobody.lie(0, 4, 1), -1);
        Due.is("none", nobody.lie(0, 4, 2), -1);
        Due.is("nothing there", Due.city("house ha lock 0;").lie(0, 1, 0), 0);
    }

    private static void lieTies() {
        Due.by("of like ones the first (none first, then by THING, by WORTH).");
        BetterThieves none = lyingCity("1");
        Due.is("as much without", none.lie(0, 1, 0), 60);
        Due.is("none first", none.lie(0, 1, 1), -1);
        Due.is("none first", none.lie(0, 1, 2), -1);
        BetterThieves worth = lyingCity("taken>4 and taken<9");
        Due.is("by WORTH", worth.lie(0, 1, 1), 0);
        Due.is("by WORTH", worth.lie(0, 1, 2), 5);
        BetterThieves thing = lyingCity("taken=20 or left=0");
        Due.is("by THING", thing.lie(0, 1, 1), 0);
        Due.is("by THING", thing.lie(0, 1, 2), 20);
        // a later one that is more, by one
        BetterThieves more = Due.city(Texts.worths(50, 60, 61) + "house ha lock 0 has a;"
                + "thief pa sack 9 skill 0 has b has c;dear a to pa 99;"
                + "law taken=3 and left=60 or taken=7 and left=61;");
        Due.is("more", more.lie(0, 1, 0), 61);
        Due.is("more", more.lie(0, 1, 2), 7);
    }

    private static void lieTrueWorths() {
        Due.by("what by ROUNDS it has then, by its true WORTHS, is most;");
        // told 20 it seems much, but is 5 in truth
        BetterThieves x = Due.city(Texts.worths(10, 5) + "house ha lock 0 has a;thief pa sack 9 skill 0 has b;"
                + "dear a to pa 99;");
        Due.is("a stays", x.lie(0, 1, 0), 10);
        Due.is("none", x.lie(0, 1, 1), -1);
        // dear to it: by that, not by its worth
        BetterThieves dear = Due.city(Texts.worths(10, 5) + "house ha lock 0 has a;thief pa sack 9 skill 0 has b;"
                + "dear a to pa 99;"
                + "dear a to ha 3;dear b to ha 4;law taken=20;");
        Due.is("what it has", dear.lie(0, 1, 0), 4);
        Due.is("the WORTH", dear.lie(0, 1, 2), 20);
        // to lie so that nothing is taken
        BetterThieves keep = Due.city(Texts.worths(10, 5) + "house ha lock 0 has a;thief pa sack 9 skill 0 has b;"
                + "dear a to pa 99;law taken=10;");
        Due.is("it is kept", keep.lie(0, 1, 0), 10);
        Due.is("the THING", keep.lie(0, 1, 1), 0);
        Due.is("the WORTH", keep.lie(0, 1, 2), 0);
    }

    private static void lieThere() {
        // nothing is told in earnest, and nothing lies there
        BetterThieves x = lyingCity("taken=7");
        Due.is("lie", x.lie(0, 4, 0), 60);
        Due.is("law", x.may(0, 0, 1, 2, 2), 0);
        Due.is("WORTH", x.worth(0, 0, false), 50);
        Due.is("drift", x.drift(0, 4), 0);
        Due.lies("lie", x);
        Due.is("what 3", x.lie(0, 4, 3), -2);
        Due.is("what -1", x.lie(0, 4, -1), -2);
        Due.is("law", x.may(0, 0, 1, 2, 2), 0);
    }
}
