/** The edges of promises 18 to 20 and 25 to 28, and of what "Terms" says of SWAPS, TOURS, LOOPHOLES and WHO. */
public final class EdgeSwapTest {
    private static final int GAP = BetterThieves.GAP;

    private EdgeSwapTest() {
    }

    public static void main(String[] args) {
        oneForOneOrTwo();
        canLawfulNotSeen();
        minutesOfASwap();
        gains();
        order();
        ties();
        best();
        laterThief();
        tourHours();
        tourWaits();
        tourInJail();
        tourFirst();
        tourOthers();
        spent();
        aheadOfAsking();
        tourLies();
        unbettered();
        unbetteredNoMatter();
        loopholes();
        loopholeEdges();
        who();
        whoHours();
        whoNoMatter();
        lies();
        Due.finish();
    }

    /** HOUSE 0 has the first of ten THINGS, THIEF 0 the others; all is LAWFUL. */
    private static String parted(int inHouse, int things) {
        return Texts.things(things) + "house ha lock 0" + Texts.has(0, inHouse - 1) + ";thief pa sack 999 skill 0"
                + Texts.has(inHouse, things - 1) + ";";
    }

    private static void oneForOneOrTwo() {
        Due.by("A SWAP is a THEFT of one THING for one or two that CAN be,");
        for (int things = 0; things <= 10; things++) {
            for (int m = 0; m <= things; m++) {
                int s = things - m;
                Due.is(m + " there, " + s + " in STOCK", Due.city(parted(m, things) + "law 1;").swaps(0), m * (s
                        + s * (s - 1) / 2));
            }
        }
        // none, three, and two at once are none
        Due.is("for one", Due.city(parted(3, 7) + "law gave=1;").swaps(0), 12);
        Due.is("for two", Due.city(parted(3, 7) + "law gave=2;").swaps(0), 18);
        Due.is("for none", Due.city(parted(3, 7) + "law gave=0;").swaps(0), 0);
        Due.is("for three", Due.city(parted(3, 7) + "law gave=3;").swaps(0), 0);
        Due.is("two at once", Due.city(parted(3, 7) + "law took=2;").swaps(0), 0);
        Due.is("best of none", Due.city(parted(3, 7) + "law gave=3 or took=2;").best(0), GAP);
        // in several HOUSES: 1 + 1 + 1 + 1 + 0 there, 6 in STOCK
        Due.is("84", Due.city(Texts.things(10) + "house ha lock 0 has a;house hb lock 0 has b;house hc lock 0;"
                + "house hd lock 0 has c;house he lock 0 has d;thief pa sack 999 skill 0" + Texts.has(4, 9) + ";"
                + "law 1;").swaps(0), 84);
        // of each THIEF for himself
        BetterThieves two = Due.city(Texts.things(4) + "house ha lock 0 has a;thief pa sack 9 skill 0 has b;"
                + "thief pb sack 9 skill 0 has c has d;law 1;");
        Due.is("with one", two.swaps(0), 1);
        Due.is("with two", two.swaps(1), 3);
    }

    private static void canLawfulNotSeen() {
        Due.by("is LAWFUL, and not SEEN, at an HOUR.");
        for (int n = 1; n <= 9; n++) {
            BetterThieves x = Due.city("night " + n + ";" + Texts.worths(5, 6, 4) + "house ha lock 0 watch 0 has a;"
                    + "house hb lock 0 watch "
                    + (n - 1) + " has c;thief pa sack 9 skill 0 has b;");
            for (int hour = 0; hour <= n; hour++) {
                int open = (hour % n == 0 ? 0 : 1) + (hour % n == n - 1 ? 0 : 1);
                Due.is("HOUR " + hour % n + " of " + n, x.swaps(0), open);
                x.waits();
            }
        }
        Due.is("as much is not LAWFUL", Due.city(Texts.worths(5, 5) + "house ha lock 0 has a;"
                + "thief pa sack 9 skill 0 has b;")
                .swaps(0), 0);
    }

    private static void minutesOfASwap() {
        // one for two takes 15 MINUTES at the most
        BetterThieves x = Due.city(Texts.worths(5, 6, 7) + "house ha lock 9 has a;"
                + "thief pa sack 9 skill 0 has b has c;");
        Due.is("MINUTES", x.minutes(0, 0, 3), 15);
        Due.is("SWAPS", x.swaps(0), 3);
    }

    private static void gains() {
        Due.by("Its GAIN: what the THIEF's is WORTH to him then, less what it was.");
        String[] parts = {"dear a to pa 99;dear b to pa 0;", "dear a to pa 0;dear b to pa 99;", "dear a to pa 7;"
                + "dear b to pa 7;",
            "dear a to pa 8;dear b to pa 7;", "dear a to pa 6;dear b to pa 7;", "dear a to ha 0;dear b to ha 99;"};
        int[] gains = {99, -99, 0, 1, -1, -1};
        for (int i = 0; i < parts.length; i++) {
            BetterThieves x = Due.city(Texts.worths(5, 6) + "house ha lock 0 has a;thief pa sack 9 skill 0 has b;"
                    + parts[i]
                    + "law 1;");
            Due.is(parts[i], x.best(0), gains[i]);
            Due.lies(parts[i], x, 0, 0, 2);
        }
        BetterThieves two = Due.city(Texts.worths(0, 99, 99) + "house ha lock 0 has a;"
                + "thief pa sack 9 skill 0 has b has c;law gave=2;");
        Due.is("for two", two.best(0), -198);
        Due.lies("for two", two, 0, 0, 6);
    }

    private static void order() {
        Due.by("SWAPS are ordered by HOUSE, THING TAKEN, set LEFT (as bits, the least first).");
        // all GAINS are 0: the first one LAWFUL is BEST
        String city = Texts.things(7).replace("worth 1", "worth 0") + "house ha lock 0 has f;"
                + "house hb lock 0 has b has e;thief pa sack 9 skill 0 has a has c has d has g;dear f to ha 1;"
                + "dear b to hb 2;dear e to hb 3;dear a to ha 10;dear c to ha 20;dear d to ha 40;"
                + "dear g to ha 80;dear a to hb 10;dear c to hb 20;dear d to hb 40;dear g to hb 80;law ";
        int[][] order = new int[30][];
        int n = 0;
        int[][] taken = {{0, 5, 1}, {1, 1, 2}, {1, 4, 3}};
        int[] lefts = {1, 4, 5, 8, 9, 12, 64, 65, 68, 72};
        for (int[] t : taken) {
            for (int left : lefts) {
                order[n] = new int[] {t[0], t[1], left, t[2], worthOf(left)};
                n++;
            }
        }
        // each is the first, if those ahead of it are not LAWFUL; the one behind it is, too
        for (int i = 0; i < n; i++) {
            StringBuilder b = new StringBuilder(city);
            b.append("taken=" + order[i][3] + " and left=" + order[i][4]);
            for (int j : new int[] {i + 1, i + 7, n - 1}) {
                if (j < n) {
                    b.append(" or taken=" + order[j][3] + " and left=" + order[j][4]);
                }
            }
            BetterThieves x = Due.city(b + ";");
            Due.is("GAIN", x.best(0), 0);
            Due.lies("the first", x, order[i][0], order[i][1], order[i][2]);
        }
    }

    private static int worthOf(int left) {
        return ((left & 1) != 0 ? 10 : 0) + ((left & 4) != 0 ? 20 : 0) + ((left & 8) != 0 ? 40 : 0)
                + ((left & 64) != 0 ? 80 : 0);
    }

    private static void ties() {
        Due.by("BEST: the SWAP of greatest GAIN; of like ones the first.");
        String city = Texts.worths(9, 9, 9, 1, 1, 2) + "house ha lock 0 has a;house hb lock 0 has b has c;"
                + "thief pa sack 9 skill 0 has d has e has f;law 1;";
        BetterThieves x = Due.city(city);
        Due.is("like ones", x.best(0), 8);
        Due.lies("like ones", x, 0, 0, 8);
        BetterThieves y = Due.city(city.replace("law 1", "dear c to pa 10;law 1"));
        Due.is("the last is greater", y.best(0), 9);
        Due.lies("the last is greater", y, 1, 2, 8);
        BetterThieves z = Due.city(city.replace("law 1", "dear e to pa 0;dear d to pa 0;law 1"));
        Due.is("none of two is less than one alone", z.best(0), 9);
        Due.lies("none of two is less than one alone", z, 0, 0, 8);
    }

    private static void best() {
        Due.by("The HOUSE, the THING TAKEN, the set LEFT lie there then (behind GAP: nothing).");
        BetterThieves x = Due.city(Texts.worths(5, 6, 7) + "house ha lock 0;house hb lock 0;house hc lock 0;"
                + "house hd lock 0;"
                + "house he lock 0 has b;" + Texts.thieves(3) + "thief pd sack 9 skill 0 has c has a;dear b to pd 90;");
        Due.is("the last of each", x.best(3), 83);
        Due.lies("the last of each", x, 4, 1, 4);
        Due.by("BEST: its GAIN; GAP if there is no SWAP, or no such THIEF.");
        Due.is("no SWAP", x.best(0), GAP);
        Due.lies("no SWAP", x);
        Due.is("the last of each", x.best(3), 83);
        Due.is("no THIEF", x.best(4), GAP);
        Due.lies("no THIEF", x);
        Due.is("the last of each", x.best(3), 83);
        x.gift(1, 3, true);
        Due.lies("what lies there stays there", x, 4, 1, 4);
    }

    /** The last of four THIEVES: by his own STOCK, sack and WORTHS, not by those of another. */
    private static void laterThief() {
        String city = Texts.weights(4, 1, 2, 3, 1, 1).replace("worth 1", "worth 5") + Texts.houses(1)
                + "house hb lock 0 has a;thief pa sack 0 skill 0 has e;thief pb sack 99 skill 0 has f;"
                + "thief pc sack 0 skill 0;thief pd sack ";
        String behind = " skill 0 has b has c has d;dear b to pd 10;dear c to pd 20;dear d to pd 40;dear a to pd 99;"
                + "dear b to pb 77;law gave=2;";
        // a for b and c, b and d, c and d: his STOCK weighs 7, 6 and 5 then
        for (int sack = 4; sack <= 8; sack++) {
            BetterThieves x = Due.city(city + sack + behind);
            Due.is("a sack of " + sack, x.swaps(3), Math.max(0, Math.min(3, sack - 4)));
            int[] gains = {GAP, 39, 49, 69, 69};
            Due.is("a sack of " + sack, x.best(3), gains[sack - 4]);
        }
        BetterThieves tour = Due.city(Texts.worths(1, 2, 3, 4, 9) + Texts.houses(4)
                + "house he lock 0 has b has c has d;thief pa sack 9 skill 0 has e;"
                + Texts.thieves(3).substring(Texts.thieves(1).length()) + "thief pd sack 9 skill 0 has a;"
                + "law taken=left+1;");
        Due.is("three HOURS", tour.tour(3, 3), 3);
        Due.lies("three HOURS", tour, 4, 1, 1, 4, 2, 2, 4, 3, 4);
        Due.is("not the first", tour.tour(0, 3), -1);
        Due.is("he has none", tour.tour(1, 3), -1);
        tour.image(2);
        tour.theft(3, 4, 2, 1);
        Due.is("who", tour.who(2), 6);
        Due.lies("who", tour, 3, 0, 4, 1, 1);
        Due.is("in ROUNDS", tour.drift(3, 2), 13);
    }

    /** Each THING can be had for the one ahead of it: n HOURS for THING n. */
    private static String chain(String law) {
        return Texts.worths(0, 1, 2, 3, 4, 5, 6, 7, 8, 9) + "house ha lock 0" + Texts.has(1, 9)
                + ";thief pa sack 9 skill 0 has a;law taken=left+1" + law + ";";
    }

    private static void tourHours() {
        Due.by("the fewest HOURS (0 .. 9) behind which he has it;");
        for (int night = 1; night <= 9; night += 4) {
            BetterThieves x = Due.city("night " + night + ";" + chain(""));
            for (int t = 0; t < 10; t++) {
                Due.is("THING " + t, x.tour(0, t), t);
                Due.is("numbers", x.about(15), 3 * t);
                for (int i = 0; i < t; i++) {
                    Due.is("HOUSE", x.lies(3 * i), 0);
                    Due.is("THING", x.lies(3 * i + 1), i + 1);
                    Due.is("LEFT", x.lies(3 * i + 2), 1 << i);
                }
                Due.is("no more", x.lies(3 * t), GAP);
            }
        }
        Due.by("NONE if 9 are not enough, or one can't be;");
        // one HOUR is lost, or two
        BetterThieves one = Due.city("night 9;" + chain(" and not hour=4"));
        Due.is("THING 8", one.tour(0, 8), 9);
        Due.is("THING 9", one.tour(0, 9), -1);
        Due.lies("THING 9", one);
        BetterThieves two = Due.city("night 9;" + chain(" and hour<7"));
        Due.is("THING 7", two.tour(0, 7), 7);
        Due.is("THING 8", two.tour(0, 8), -1);
        two.waits();
        Due.is("THING 6", two.tour(0, 6), 6);
        Due.is("THING 7", two.tour(0, 7), 9);
        Due.is("THING 8", two.tour(0, 8), -1);
    }

    private static void tourWaits() {
        Due.by("in each HOUR from now on he does a SWAP, or waits, and nobody else does anything:");
        String begin = "night 9;" + Texts.worths(5, 6) + "house ha lock 0";
        for (int n = 0; n <= 9; n++) {
            BetterThieves x = Due.city(begin + Texts.watches(n) + " has a;thief pa sack 9 skill 0 has b;"
                    + "thief pb sack 9 skill 0;");
            Due.is(n + " HOURS of watch", x.tour(0, 0), n < 9 ? n + 1 : -1);
            Due.is("numbers", x.about(15), n < 9 ? 3 * n + 3 : 0);
            for (int i = 0; i < n && n < 9; i++) {
                Due.is("waits", x.lies(3 * i), -1);
                Due.is("waits", x.lies(3 * i + 1), -1);
                Due.is("waits", x.lies(3 * i + 2), 0);
            }
            Due.is("then", n < 9 ? x.lies(3 * n + 2) : GAP, n < 9 ? 2 : GAP);
            Due.is("another waits for nothing", x.tour(1, 0), -1);
            Due.is("he has it", x.tour(0, 1), 0);
        }
        // past the end of the NIGHT
        BetterThieves x = Due.city("night 3;" + Texts.worths(5, 6) + "house ha lock 0 watch 1 watch 2 has a;"
                + "thief pa sack 9 skill 0 has b;");
        Due.is("now", x.tour(0, 0), 1);
        x.waits();
        Due.is("in the next NIGHT", x.tour(0, 0), 3);
        x.waits();
        Due.is("in the next NIGHT", x.tour(0, 0), 2);
        Due.lies("in the next NIGHT", x, -1, -1, 0, 0, 0, 2);
    }

    private static void tourInJail() {
        Due.by("(Who is in JAIL waits for the next NIGHT.)");
        for (int n = 2; n <= 9; n++) {
            BetterThieves x = Due.city("night " + n + ";" + Texts.worths(5, 6, 4) + "house ha lock 0 watch 0 has a;"
                    + "house hb lock 0 has c;"
                    + "thief pa sack 9 skill 0 has b;");
            Due.is("CAUGHT", x.theft(0, 0, 1, 2), 2);
            Due.is("what has no watch", x.tour(0, 2), n);
            Due.is("numbers", x.about(15), 3 * n);
            Due.is("waits", x.lies(3 * n - 6), -1);
            Due.is("then", x.lies(3 * n - 3), 1);
            Due.is("what has a watch in HOUR 0", x.tour(0, 0), n < 9 ? n + 1 : -1);
            Due.is("what he has", x.tour(0, 1), 0);
        }
    }

    private static void tourFirst() {
        Due.by("of like ones the first (HOUR by HOUR; to wait comes last).");
        // b for a now, or in the next HOUR, is had behind two HOURS by c: he does it now
        BetterThieves x = Due.city("night 9;" + Texts.worths(1, 2, 3, 9) + "house ha lock 0 watch 0 has c;"
                + "house hb lock 0 has b;"
                + "thief pa sack 9 skill 0 has a;law taken=left+1;");
        Due.is("two", x.tour(0, 2), 2);
        Due.lies("two", x, 1, 1, 1, 0, 2, 2);
        // nothing is to be done in the second HOUR but what is of no use: a SWAP comes ahead of waiting
        BetterThieves y = Due.city("night 9;" + Texts.worths(1, 1, 9, 9) + "house ha lock 0 watch 0 watch 1 has c;"
                + "house hb lock 0 has b;"
                + "thief pa sack 9 skill 0 has a;law taken=left or taken=9;");
        Due.is("three", y.tour(0, 2), 3);
        Due.lies("three", y, 1, 1, 1, 1, 0, 2, 0, 2, 1);
        // of two THINGS that do, the one of the least set; of two HOUSES the first
        BetterThieves z = Due.city(Texts.worths(5, 6, 7) + "house ha lock 0 has a;"
                + "thief pa sack 9 skill 0 has b has c;");
        Due.is("one", z.tour(0, 0), 1);
        Due.lies("one", z, 0, 0, 2);
        BetterThieves w = Due.city(Texts.worths(1, 2, 2, 3) + "house ha lock 0 has b;house hb lock 0 has c has d;"
                + "thief pa sack 9 skill 0 has a;law taken=left+1;");
        Due.is("by HOUSE 0", w.tour(0, 3), 2);
        Due.lies("by HOUSE 0", w, 0, 1, 1, 1, 3, 2);
    }

    private static void tourOthers() {
        BetterThieves x = Due.city(Texts.worths(1, 2, 3, 4) + "house ha lock 0 has b;thief pa sack 9 skill 0 has a;"
                + "thief pb sack 9 skill 0 has c;law 1;");
        Due.is("another has it", x.tour(0, 2), -1);
        Due.is("nobody has it", x.tour(0, 3), -1);
        Due.is("it is there", x.tour(0, 1), 1);
        Due.is("for the other, too", x.tour(1, 1), 1);
        Due.lies("for the other, too", x, 0, 1, 4);
        Due.is("too heavy for ever", Due.city(Texts.weights(10, 1) + "house ha lock 0 has a;"
                + "thief pa sack 9 skill 0 has b;law 1;")
                .tour(0, 0), -1);
    }

    /** Counted with Oracle: so many states behind all nine HOURS, and z is never had. */
    private static void spent() {
        Due.by("SPENT, if more than 2,000 states of THINGS are come to");
        String law = ";law left+1>taken and left<taken+2;";
        BetterThieves most = Due.city("night 1;" + Texts.worths(5, 0, 1, 2, 0, 0, 2)
                + "thing z of ka weight 99 worth 1;house ha lock 0 has a has z;house hb lock 0 has b;"
                + "house hc lock 0 has c;thief p sack 50 skill 0" + Texts.has(3, 6) + law);
        Due.is("2,000 states", most.tour(0, 7), -1);
        BetterThieves more = Due.city("night 1;" + Texts.worths(2, 3, 4, 4, 5, 3, 2)
                + "thing z of ka weight 99 worth 1;house ha lock 0 has a has b has z;house hb lock 0 has c has d;"
                + "thief p sack 50 skill 0" + Texts.has(4, 6) + law);
        Due.is("2,001 states", more.tour(0, 7), -2);
        Due.lies("2,001 states", more);
        Due.by("(each once behind each HOUR,");
        // with 4 of 9 in STOCK, one for one: 1, 21, 81, 121, then 126 each HOUR
        String parted = Texts.worths(1, 1, 1, 1, 1, 1, 1, 1, 1, 50) + "house ha lock 0" + Texts.has(0, 4)
                + " has j;thief pa sack 99 skill 0" + Texts.has(5, 8) + ";law gave=1 and taken<9;";
        Due.is("980 states", Due.city(parted).tour(0, 9), -1);
        // one for two as well: more each HOUR
        Due.is("more", Due.city(parted.replace("gave=1 and ", "").replace("house ha", "house hb lock 0;"
                + "house ha")).tour(0, 9), -2);
    }

    private static void aheadOfAsking() {
        Due.by("all of an HOUR ahead of asking; now counts).");
        // by Oracle: 911 states behind 4 HOURS, 2,000 behind 5, in some of which he has z
        BetterThieves x = Due.city("night 9;" + Texts.worths(0, 1, 2, 0, 2, 0, 0, 50) + "house ha lock 0 has c;"
                + "house hb lock 0 has a has d has h;thief p sack 99 skill 0 has b has e has f has g;"
                + "law left+1>taken and left<taken+2 or taken=50 and hour=4;");
        Due.is("2,000 states", x.tour(0, 7), 5);
        Due.lies("2,000 states", x, 0, 2, 16, 0, 4, 4, 0, 2, 16, 0, 4, 4, 1, 7, 2);
        // 576 behind 4 HOURS, 2,001 behind 5, in some of which he has z
        BetterThieves y = Due.city("night 9;" + Texts.worths(3, 1, 1, 2, 2, 1, 2, 50) + "house ha lock 0;"
                + "house hb lock 0 has b has c;"
                + "house hc lock 0 has f has h;thief p sack 99 skill 0 has a has d has e has g;"
                + "law left+1>taken and left<taken+2 or taken=50 and hour=4;");
        Due.is("2,001 states", y.tour(0, 7), -2);
        Due.lies("2,001 states", y);
        // what is had ahead of that is had
        Due.is("now", y.tour(0, 0), 0);
        Due.is("behind an HOUR", y.tour(0, 1), 1);
    }

    private static void tourLies() {
        Due.by("For each HOUR its HOUSE (NONE: he waits), THING, set LEFT (NONE, 0) lie there then (behind NONE, -2: "
                + "nothing).");
        BetterThieves x = Due.city("night 9;" + chain(""));
        x.tour(0, 9);
        Due.is("27", x.about(15), 27);
        Due.is("the last", x.lies(26), 256);
        Due.is("no more", x.lies(27), GAP);
        Due.is("none", x.tour(0, 0), 0);
        Due.lies("0 HOURS", x);
        x.tour(0, 9);
        Due.is("one can't be", x.tour(0, 10), -1);
        Due.lies("one can't be", x);
        x.tour(0, 9);
        Due.is("one can't be", x.tour(1, 0), -1);
        Due.lies("one can't be", x);
    }

    private static void unbettered() {
        Due.by("UNBETTERED: THINGS of a HOUSE for which no THIEF has one or two THINGS in STOCK by which a THEFT of "
                + "that one alone would be LAWFUL");
        String begin = Texts.worths(5, 10, 11, 16, 20, 6, 5, 5);
        String all = "house ha lock 0 has a has b has c has d has e;house hb lock 0;";
        // 6, and 5 + 5 for the other
        BetterThieves x = Due.city(begin + all + "thief pa sack 9 skill 0 has f;thief pb sack 9 skill 0 has g has h;");
        Due.is("5 by 6, 10 by nothing", x.unbettered(0), 30);
        x.gift(5, 1, true);
        // 6 + 5 is more than 10, not than 11; three would be more than 11, than 16 not
        Due.is("10 by two", x.unbettered(0), 28);
        x.gift(4, 0, true);
        // 20 alone is more than 16
        Due.is("by one of the first THIEF", x.unbettered(0), 0);
        Due.is("nothing there", x.unbettered(1), 0);
        BetterThieves none = Due.city(begin + all + "thief pa sack 9 skill 0;");
        Due.is("nothing in STOCK", none.unbettered(0), 31);
        BetterThieves nobody = Due.city(begin + all);
        Due.is("no THIEF", nobody.unbettered(0), 31);
        Due.is("no HOUSE", nobody.unbettered(2), -1);
        Due.is("HOUSE -1", nobody.unbettered(-1), -1);
        BetterThieves full = Due.city(Texts.things(10) + "house ha lock 0" + Texts.has(0, 9) + ";"
                + "thief pa sack 9 skill 0;law 1;");
        Due.is("all ten", full.unbettered(0), 1023);
        full.gift(9, 0, true);
        Due.is("none of nine", full.unbettered(0), 0);
        BetterThieves four = Due.city(begin + Texts.houses(4) + "house he lock 0 has a has b;" + Texts.thieves(3)
                + "thief pd sack 9 skill 0 has f;");
        Due.is("the last HOUSE, by the last THIEF", four.unbettered(4), 2);
        Due.is("no sixth HOUSE", four.unbettered(5), -1);
        four.gift(5, 4, false);
        Due.is("by none of four", four.unbettered(4), 35);
        // alone: two at once, three LEFT or none LEFT don't count
        for (String law : new String[] {"took=2", "gave=3", "gave=0"}) {
            BetterThieves y = Due.city(begin + all + "thief pa sack 9 skill 0 has f has g has h;law " + law + ";");
            Due.is(law, y.unbettered(0), 31);
        }
    }

    private static void unbetteredNoMatter() {
        Due.by("(in the HOUR as it is; sacks, MINUTES, JAIL, watch are no matter).");
        String begin = "night 2;" + Texts.weights(99, 1, 1, 1).replace("worth 1", "worth 5")
                + "house ha lock 9 watch 0 has a;house hb lock 0 has d;";
        BetterThieves x = Due.city(begin + "thief pa sack 0 skill 0 has b has c;dear b to ha 6;");
        Due.is("sack, watch", x.unbettered(0), 0);
        Due.is("but no SWAP", x.swaps(0), 0);
        BetterThieves y = Due.city(begin + "thief pa sack 99 skill 0 has b has c;dear b to ha 6;");
        Due.is("CAUGHT", y.theft(0, 0, 1, 6), 2);
        Due.is("JAIL", y.unbettered(0), 0);
        Due.is("JAIL", y.unbettered(1), 0);
        BetterThieves z = Due.city(begin + "thief pa sack 0 skill 0 has b has c;law hour;");
        Due.is("HOUR 0", z.unbettered(0), 1);
        z.waits();
        Due.is("HOUR 1", z.unbettered(0), 0);
        z.waits();
        Due.is("HOUR 0 again", z.unbettered(0), 1);
        BetterThieves skill = Due.city(begin + "thief pa sack 0 skill 8 has b;thief pb sack 0 skill 9 has c;"
                + "law skill=9 and left;");
        Due.is("skill of each", skill.unbettered(0), 0);
        skill.gift(2, 0, true);
        Due.is("skill of each", skill.unbettered(0), 1);
    }

    private static void loopholes() {
        Due.by("LOOPHOLES: how many.");
        // all is LAWFUL: each THING there for each one in STOCK
        for (int m = 0; m <= 10; m++) {
            BetterThieves x = Due.city(parted(m, 10) + "law 1;");
            Due.is(m + " there", x.loopholes(), m * (10 - m));
            if (m > 0 && m < 10) {
                Due.lies(m + " there", x, 0, 0, 0, m);
            } else {
                Due.lies(m + " there", x);
            }
        }
        Due.is("without law there is none", Due.city(parted(5, 10)).loopholes(), 0);
        Due.is("for two it is none", Due.city(parted(5, 10) + "law gave=2;").loopholes(), 0);
        Due.by("The first (by THIEF, HOUSE, THING there, THING in STOCK) lies there then, these four (behind 0: "
                + "nothing).");
        BetterThieves y = Due.city(Texts.things(10) + Texts.houses(2) + "house hc lock 0 has c has j;"
                + "house hd lock 0 has b;house he lock 0 has a;"
                + Texts.thieves(2) + "thief pc sack 9 skill 0 has i has f;thief pd sack 9 skill 0 has e has d;law 1;");
        Due.is("4 there, 4 in STOCK", y.loopholes(), 16);
        Due.lies("the first", y, 2, 2, 2, 5);
        y.gift(8, 0, false);
        y.gift(5, 0, false);
        Due.is("6 there, 2 in STOCK", y.loopholes(), 12);
        Due.lies("the first", y, 3, 0, 5, 3);
        y.gift(3, 0, false);
        y.gift(4, 0, false);
        Due.is("nothing in STOCK", y.loopholes(), 0);
        Due.lies("nothing in STOCK", y);
    }

    private static void loopholeEdges() {
        Due.by("to take the one for the other is a SWAP now, and, that done, to take it back for the other one, in "
                + "the same HOUR, too.");
        String begin = "night 2;" + Texts.weights(3, 5).replace("worth 1", "worth 5") + "house ha lock 0";
        // his STOCK weighs 5 as it is, and 3 with the other
        for (int sack = 2; sack <= 6; sack++) {
            BetterThieves x = Due.city(begin + " has a;thief pa sack " + sack + " skill 0 has b;law 1;");
            Due.is("SWAPS by a sack of " + sack, x.swaps(0), sack >= 3 ? 1 : 0);
            Due.is("back by a sack of " + sack, x.loopholes(), sack >= 5 ? 1 : 0);
        }
        // the HOUR that goes by is no matter: what has a watch in the next one, and law that counts the HOUR
        BetterThieves watch = Due.city(begin + " watch 1 has a;thief pa sack 9 skill 0 has b;law 1;");
        Due.is("watch in the next HOUR", watch.loopholes(), 1);
        watch.waits();
        Due.is("watch in this HOUR", watch.loopholes(), 0);
        Due.lies("watch in this HOUR", watch);
        BetterThieves hour = Due.city(begin + " has a;thief pa sack 9 skill 0 has b;law hour=1;");
        Due.is("not LAWFUL now", hour.loopholes(), 0);
        hour.waits();
        Due.is("LAWFUL now", hour.loopholes(), 1);
        // one way alone is LAWFUL
        BetterThieves there = Due.city(begin + " has a;thief pa sack 9 skill 0 has b;dear a to ha 4;");
        Due.is("there", there.swaps(0), 1);
        Due.is("not back", there.loopholes(), 0);
        BetterThieves back = Due.city(begin + " has a;thief pa sack 9 skill 0 has b;dear a to ha 6;");
        Due.is("not there", back.swaps(0), 0);
        Due.is("not there", back.loopholes(), 0);
        // both ways by what each is worth there: there it is 6 + 2 for 5, back 5 + 2 for 6
        for (int worth = 3; worth <= 9; worth++) {
            BetterThieves x = Due.city(begin + " has a;thief pa sack 9 skill 0 has b;dear a to ha " + worth
                    + ";dear b to ha 6;law left+2>taken;");
            Due.is("there from " + worth, x.swaps(0), worth < 8 ? 1 : 0);
            Due.is("and back from " + worth, x.loopholes(), worth > 4 && worth < 8 ? 1 : 0);
        }
        // in JAIL there is none
        BetterThieves jail = Due.city("night 3;" + Texts.things(3) + "house ha lock 0 watch 0 has a;"
                + "thief pa sack 9 skill 0 has b;"
                + "thief pb sack 9 skill 0 has c;law 1;");
        Due.is("CAUGHT", jail.theft(0, 0, 1, 0), 2);
        Due.is("of the other", jail.loopholes(), 1);
        Due.lies("of the other", jail, 1, 0, 0, 2);
    }

    private static void who() {
        Due.by("of what was kept in a BOX, one SWAP (at an HOUR 0 .. of a NIGHT;"
                + " nobody in JAIL) by which THINGS are as they are now.");
        String city = "night 1;" + Texts.things(6) + "house ha lock 0 has a;house hb lock 0 has b;"
                + "thief pa sack 9 skill 0 has c has d;"
                + "thief pb sack 9 skill 0 has e has f;law 1;";
        int[][] swaps = {{0, 0, 0, 4}, {0, 0, 0, 8}, {0, 0, 0, 12}, {0, 1, 1, 4}, {1, 0, 0, 16}, {1, 1, 1, 48}, {1, 1,
                1, 32}};
        for (int[] s : swaps) {
            BetterThieves x = Due.city(city);
            x.image(2);
            Due.is("theft", x.theft(s[0], s[1], 1 << s[2], s[3]), 1);
            Due.is("who", x.who(2), 1);
            Due.lies("who", x, s[0], 0, s[1], s[2], s[3]);
        }
        // what is none: nothing moved, none LEFT, three LEFT, two TAKEN, two SWAPS, a GIFT more
        int[][] thefts = {{0, 0, 1, 0}, {0, 0, 1, 28}, {0, 0, 33, 4}};
        for (int[] t : thefts) {
            BetterThieves x = Due.city(city.replace("has e has f", "has f").replace("has c has d", "has c has d has e")
                    .replace("house ha lock 0 has a;", "house ha lock 0 has a has f;").replace("skill 0 has f;",
                            "skill 0;"));
            x.image(0);
            Due.is("theft", x.theft(t[0], t[1], t[2], t[3]), 1);
            Due.is("no SWAP", x.who(0), 0);
            Due.lies("no SWAP", x);
        }
        BetterThieves x = Due.city(city);
        x.image(0);
        Due.is("nothing moved", x.who(0), 0);
        x.theft(0, 0, 1, 4);
        x.theft(1, 1, 2, 16);
        Due.is("two SWAPS", x.who(0), 0);
        x.back(0);
        x.theft(0, 0, 1, 4);
        Due.is("one", x.who(0), 1);
        x.gift(5, 0, true);
        Due.is("and a GIFT", x.who(0), 0);
        Due.by("NONE if nothing is there.");
        Due.is("BOX 1", x.who(1), -1);
        Due.is("BOX 3", x.who(3), -1);
        Due.is("BOX -1", x.who(-1), -1);
    }

    private static void whoHours() {
        Due.by("how many SWAPS (each HOUR counts);");
        for (int n = 1; n <= 9; n++) {
            for (int watched = 0; watched <= n; watched++) {
                BetterThieves x = Due.city("night " + n + ";" + Texts.worths(5, 6) + "house ha lock 0"
                        + Texts.watches(watched)
                        + " has a;thief pa sack 9 skill 0 has b;");
                x.image(0);
                x.gift(0, 0, true);
                x.gift(1, 0, false);
                Due.is(watched + " of " + n + " HOURS watched", x.who(0), n - watched);
                if (watched < n) {
                    Due.lies("the first HOUR", x, 0, watched, 0, 0, 2);
                } else {
                    Due.lies("none", x);
                }
            }
        }
        Due.by("The first (by THIEF, HOUR, then as SWAPS) lies there then, as THIEF, HOUR, HOUSE, THING, set LEFT "
                + "(behind 0, NONE: nothing).");
        BetterThieves last = Due.city("night 9;" + Texts.worths(5, 6) + "house ha lock 0 has a;"
                + "thief pa sack 9 skill 0 has b;law hour=8;");
        last.image(1);
        last.gift(0, 0, true);
        last.gift(1, 0, false);
        Due.is("the last HOUR alone", last.who(1), 1);
        Due.lies("the last HOUR alone", last, 0, 8, 0, 0, 2);
    }

    private static void whoNoMatter() {
        // who was in JAIL when it was kept, and who is now; the HOUR kept, and the HOUR now
        BetterThieves x = Due.city("night 3;" + Texts.worths(5, 6) + "house ha lock 0 watch 1 has a;"
                + "thief pa sack 9 skill 0 has b;");
        x.waits();
        Due.is("CAUGHT", x.theft(0, 0, 1, 2), 2);
        x.image(0);
        x.gift(0, 0, true);
        x.gift(1, 0, false);
        Due.is("HOURS 0 and 2", x.who(0), 2);
        Due.lies("HOURS 0 and 2", x, 0, 0, 0, 0, 2);
        Due.is("in JAIL still", x.about(7), 1);
        // the sack is a matter: by what he had then
        for (int sack = 2; sack <= 4; sack++) {
            BetterThieves y = Due.city("night 1;" + Texts.weights(3, 1) + "house ha lock 0 has a;thief pa sack "
                    + sack + " skill 0 has b;law 1;");
            y.image(0);
            y.gift(0, 0, true);
            y.gift(1, 0, false);
            Due.is("a sack of " + sack, y.who(0), sack >= 3 ? 1 : 0);
        }
        // what is nowhere, then or now, is no SWAP
        BetterThieves z = Due.city("night 1;" + Texts.things(3) + "house ha lock 0 has a;"
                + "thief pa sack 9 skill 0 has b;law 1;");
        z.image(0);
        z.gift(0, 0, true);
        z.gift(1, 0, false);
        Due.is("one", z.who(0), 1);
        z.gift(2, 0, false);
        Due.is("what was nowhere", z.who(0), 0);
    }

    private static void lies() {
        Due.by("The i-th number of what lies there; GAP if there is none such.");
        BetterThieves x = new BetterThieves();
        Due.lies("new", x);
        BetterThieves y = Due.city("night 9;" + chain(""));
        Due.lies("told", y);
        y.tour(0, 9);
        for (int i = 0; i < 27; i++) {
            Due.is("lies(" + i + ")", y.lies(i) != GAP, true);
        }
        for (int i : new int[] {27, 28, 29, 30, 31, 32, -1, -2, Integer.MAX_VALUE, Integer.MIN_VALUE}) {
            Due.is("lies(" + i + ")", y.lies(i), GAP);
        }
        // fewer numbers than before leave none of those behind them
        y.best(0);
        Due.lies("best", y, 0, 1, 1);
        y.loopholes();
        Due.lies("loopholes", y);
    }
}
