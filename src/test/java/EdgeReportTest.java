/** The edges of promises 29 to 33: REPORTS, the TIME, SPAN, ASK. */
public final class EdgeReportTest {
    private static final String CITY = "night 3;" + Texts.worths(50, 50, 60) + "house ha lock 0 has a;house hb lock 0;"
            + "thief pa sack 9 skill 7 has b;";

    private EdgeReportTest() {
    }

    public static void main(String[] args) {
        thirty();
        reportRanges();
        whereverTheyAre();
        noSkill();
        untell();
        later();
        topOfTime();
        knownAt();
        sameTime();
        farTimes();
        spanRange();
        spanEmpty();
        spanOfItsHouse();
        spanByLaw();
        allElseAsTold();
        ask();
        askTies();
        askHourZero();
        askNone();
        askTwoThings();
        askTen();
        Due.finish();
    }

    private static long of(boolean answer) {
        return answer ? 1 : 0;
    }

    private static BetterThieves with30() {
        BetterThieves x = Due.city(CITY);
        for (int i = 0; i < 30; i++) {
            Due.is("report", x.report(i % 2, i % 3, (i + 1) % 3, i % 3, i % 2 == 0), i);
            Due.is("REPORTS", x.about(11), i + 1);
        }
        return x;
    }

    private static void thirty() {
        Due.by("REPORTS, 30 at most, are TOLD at a TIME (0 at first, goes on),");
        Twins.unchanged("a REPORT behind 30", EdgeReportTest::with30, x -> x.report(0, 0, 1, 0, true), -1);
        Twins.unchanged("a REPORT behind 30, one of them UNTOLD", () -> {
            BetterThieves x = with30();
            x.untell(7);
            return x;
        }, x -> x.report(0, 0, 1, 0, true), -1);
        BetterThieves x = with30();
        Due.feed(x, CITY);
        x.city();
        Due.is("another CITY has none", x.about(11), 0);
        Due.is("and room", x.report(0, 0, 1, 0, true), 0);
        Due.is("a new one", new BetterThieves().about(12), 0);
        // a BOX keeps no REPORTS, an ACT is none
        x.image(0);
        x.report(0, 1, 0, 0, true);
        x.back(0);
        Due.is("they stay", x.about(11), 2);
    }

    private static void reportRanges() {
        Due.by("NONE, doing nothing, if one can't be (the same THING twice, an HOUR that no NIGHT has, too), or there "
                + "are 30.");
        for (int n = 1; n <= 9; n++) {
            BetterThieves x = Due.city("night " + n + ";" + Texts.things(2) + "house ha lock 0;");
            Due.is("HOUR -1", x.report(0, 0, 1, -1, true), -1);
            Due.is("HOUR " + n, x.report(0, 0, 1, n, true), -1);
            Due.is("HOUR 0", x.report(0, 0, 1, 0, true), 0);
            Due.is("the last HOUR", x.report(0, 0, 1, n - 1, false), 1);
        }
        BetterThieves full = Due.city(Texts.full());
        Due.is("the last of each", full.report(4, 9, 8, 8, true), 0);
        Due.is("HOUSE 5", full.report(5, 9, 8, 8, true), -1);
        Due.is("THING 10", full.report(4, 10, 8, 8, true), -1);
        Due.is("THING 10", full.report(4, 9, 10, 8, true), -1);
        Due.is("HOUR 9", full.report(4, 9, 8, 9, true), -1);
        for (int t = 0; t < 10; t++) {
            Due.is("the same twice", full.report(4, t, t, 8, true), -1);
        }
        Due.is("REPORTS", full.about(11), 1);
        // the same REPORT once more, and its contrary, are others
        Due.is("once more", full.report(4, 9, 8, 8, true), 1);
        Due.is("the contrary", full.report(4, 9, 8, 8, false), 2);
    }

    private static void whereverTheyAre() {
        Due.by("was LAWFUL, or not (wherever they are).");
        BetterThieves x = Due.city(CITY);
        // a is in the HOUSE, b in STOCK, c nowhere
        int[][] pairs = {{0, 1}, {1, 0}, {0, 2}, {2, 0}, {1, 2}, {2, 1}};
        for (int i = 0; i < pairs.length; i++) {
            Due.is("report", x.report(1, pairs[i][0], pairs[i][1], 0, true), i);
        }
    }

    private static void noSkill() {
        Due.by("by one of no skill,");
        BetterThieves x = Due.city(CITY + "law skill=0 and took=1 and gave=1 and taken<40;");
        x.report(0, 0, 1, 0, true);
        Due.is("skill 0, one for one", x.span(0, 0, 0, 0), 40);
        Due.is("ASK, too", x.ask(0, 0, 1, -1), 60);
    }

    private static void untell() {
        Due.by("It is UNTOLD: true; false if it is so already, or there is none such.");
        BetterThieves x = with30();
        Due.is("30", x.untell(30), false);
        Due.is("-1", x.untell(-1), false);
        for (int i = 0; i < 30; i++) {
            Due.is("untell", x.untell(i), true);
            Due.is("so already", x.untell(i), false);
        }
        x.later(5);
        Due.is("so already", x.untell(0), false);
        Due.is("REPORTS", x.about(11), 30);
        Twins.unchanged("untell of none", () -> Due.city(CITY), y -> of(y.untell(0)), 0);
    }

    private static void later() {
        Due.by("So much later (0 .. 1000): the TIME;");
        BetterThieves x = Due.city(CITY);
        Due.is("0", x.later(0), 0);
        Due.is("1", x.later(1), 1);
        Due.is("1000", x.later(1000), 1001);
        Due.is("1001", x.later(1001), -1);
        Due.is("-1", x.later(-1), -1);
        Due.is("TIME", x.about(12), 1001);
        x.waits();
        x.theft(0, 0, 1, 0);
        Due.is("HOURS are no TIME", x.about(12), 1001);
        x.undo();
        Due.is("nor is what is undone", x.about(12), 1001);
        Due.is("0", x.later(0), 1001);
    }

    private static BetterThieves at(int time) {
        BetterThieves x = Due.city(CITY);
        for (int t = 0; t < time; t += 1000) {
            x.later(Math.min(1000, time - t));
        }
        Due.is("TIME", x.about(12), time);
        return x;
    }

    private static void topOfTime() {
        Due.by("NONE, doing nothing, for another number, or if it would be above 100,000.");
        Due.is("100,000", at(99000).later(1000), 100000);
        Due.is("100,001", at(99001).later(1000), -1);
        Due.is("100,000", at(99999).later(1), 100000);
        Due.is("100,000 stays", at(100000).later(0), 100000);
        Twins.unchanged("above it by 1", () -> at(100000), x -> x.later(1), -1);
        Twins.unchanged("above it by 1000", () -> at(100000), x -> x.later(1000), -1);
        Twins.unchanged("above it by 1", () -> at(99999), x -> x.later(2), -1);
        Twins.unchanged("another number", () -> at(99999), x -> x.later(Integer.MAX_VALUE), -1);
        BetterThieves x = at(100000);
        Due.is("a REPORT then", x.report(0, 0, 1, 0, true), 0);
        Due.is("as known then", x.span(0, 0, 0, 100000), 50);
        Due.is("as known ahead of it", x.span(0, 0, 0, 99999), 100);
    }

    private static void knownAt() {
        Due.by("As known at k those count that were TOLD at k or before, not UNTOLD at k or before.");
        BetterThieves x = Due.city(CITY);
        x.report(0, 1, 0, 0, true);
        x.later(10);
        x.report(0, 0, 2, 0, true);
        x.report(0, 0, 1, 0, true);
        x.later(5);
        x.untell(2);
        x.later(5);
        x.untell(1);
        x.later(10);
        // from 0 on a is above 50; from 10 to 19 it is below 60; from 10 to 14 it is below 50
        int[][] want = {{-1, 100, 50}, {0, 49, 39}, {9, 49, 39}, {10, 0, -1}, {14, 0, -1}, {15, 9, 9}, {19, 9, 9},
            {20, 49, 39}, {30, 49, 39}, {31, 49, 39}};
        for (int[] w : want) {
            Due.is("SPAN as known at " + w[0], x.span(0, 0, 0, w[0]), w[1]);
            Due.is("ASK as known at " + w[0], x.ask(0, 0, 1, w[0]), w[2]);
        }
    }

    private static void sameTime() {
        Due.by("UNTOLD at a later one or the same:");
        BetterThieves x = Due.city(CITY);
        x.later(5);
        x.report(0, 0, 1, 0, true);
        Due.is("TOLD", x.span(0, 0, 0, 5), 50);
        x.untell(0);
        for (int k = 4; k <= 6; k++) {
            Due.is("UNTOLD at the same", x.span(0, 0, 0, k), 100);
        }
        Due.is("told again", x.report(0, 0, 1, 0, true), 1);
        Due.is("as known at 5", x.span(0, 0, 0, 5), 50);
        Due.is("as known at 4", x.span(0, 0, 0, 4), 100);
    }

    private static void farTimes() {
        BetterThieves x = Due.city(CITY);
        x.report(0, 0, 1, 0, true);
        for (int k : new int[] {0, 1, 1000, 100000, 100001, Integer.MAX_VALUE}) {
            Due.is("as known at " + k, x.span(0, 0, 0, k), 50);
        }
        for (int k : new int[] {-1, -1000, BetterThieves.GAP, Integer.MIN_VALUE}) {
            Due.is("as known at " + k, x.span(0, 0, 0, k), 100);
        }
    }

    private static void spanRange() {
        Due.by("SPAN of a THING in a HOUSE: its WORTHS (0 .. 99) to it by which, all else as told, all REPORTS of "
                + "that HOUSE that count are so: how many; the least, the most.");
        // what alone is so: 0, 99, and what is beyond
        for (int worth : new int[] {0, 1, 50, 98, 99, 100, 101}) {
            BetterThieves x = Due.city(CITY + "law taken=" + worth + ";");
            x.report(0, 0, 1, 0, true);
            Due.is("how many", x.span(0, 0, 0, 0), worth <= 99 ? 1 : 0);
            Due.is("the least", x.span(0, 0, 1, 0), worth <= 99 ? worth : -1);
            Due.is("the most", x.span(0, 0, 2, 0), worth <= 99 ? worth : -1);
            BetterThieves y = Due.city(CITY + "law taken=" + worth + ";");
            y.report(0, 0, 1, 0, false);
            Due.is("all but it", y.span(0, 0, 0, 0), worth <= 99 ? 99 : 100);
            Due.is("the least but it", y.span(0, 0, 1, 0), worth == 0 ? 1 : 0);
            Due.is("the most but it", y.span(0, 0, 2, 0), worth == 99 ? 98 : 99);
        }
        BetterThieves x = Due.city(CITY);
        Due.is("none told: how many", x.span(0, 0, 0, 0), 100);
        Due.is("none told: the least", x.span(0, 0, 1, 0), 0);
        Due.is("none told: the most", x.span(0, 0, 2, 0), 99);
    }

    private static void spanEmpty() {
        Due.by("SPAN what 0: how many, 1: the least, 2: the most (NONE if there are none); -2 if one can't be.");
        BetterThieves x = Due.city(CITY);
        x.report(0, 0, 1, 0, true);
        x.report(0, 0, 1, 0, false);
        Due.is("how many", x.span(0, 0, 0, 0), 0);
        Due.is("the least", x.span(0, 0, 1, 0), -1);
        Due.is("the most", x.span(0, 0, 2, 0), -1);
        Due.is("of each THING", x.span(0, 2, 0, 0), 0);
        for (int what = 0; what < 3; what++) {
            Due.is("in that HOUSE alone", x.span(1, 0, what, 0), new int[] {100, 0, 99}[what]);
            Due.is("asked again", x.span(0, 0, what, 0), new int[] {0, -1, -1}[what]);
        }
        BetterThieves full = Due.city(Texts.full());
        Due.is("the last of each", full.span(4, 9, 2, 0), 99);
        Due.is("HOUSE 5", full.span(5, 9, 2, 0), -2);
        Due.is("THING 10", full.span(4, 10, 2, 0), -2);
        Due.is("what 3", full.span(4, 9, 3, 0), -2);
        Due.is("HOUSE -1", full.span(-1, 9, 2, 0), -2);
        Due.is("THING -1", full.span(4, -1, 2, 0), -2);
        Due.is("what -1", full.span(4, 9, -1, 0), -2);
    }

    private static void spanOfItsHouse() {
        BetterThieves x = Due.city(CITY + "dear a to hb 10;");
        x.report(0, 0, 1, 0, true);
        x.report(1, 0, 1, 0, true);
        Due.is("in HOUSE 0", x.span(0, 1, 1, 0), 51);
        Due.is("in HOUSE 1, where a is dear", x.span(1, 1, 1, 0), 11);
        x.report(0, 1, 2, 0, true);
        Due.is("in HOUSE 0", x.span(0, 1, 2, 0), 59);
        Due.is("in HOUSE 1", x.span(1, 1, 2, 0), 99);
        // thirty at once
        BetterThieves y = Due.city(CITY);
        for (int i = 0; i < 29; i++) {
            y.report(0, 0, 2, i % 3, true);
        }
        Due.is("the thirtieth is another", y.report(0, 1, 0, 2, true), 29);
        Due.is("from 51", y.span(0, 0, 1, 0), 51);
        Due.is("to 59", y.span(0, 0, 2, 0), 59);
        y.untell(29);
        Due.is("from 0", y.span(0, 0, 1, 0), 0);
    }

    private static void spanByLaw() {
        // with a hole, by the HOUR, by what is alike
        BetterThieves x = Due.city(CITY + "law taken<10 or taken>89 or hour=2;");
        x.report(0, 0, 1, 0, true);
        Due.is("how many", x.span(0, 0, 0, 0), 20);
        Due.is("the least", x.span(0, 0, 1, 0), 0);
        Due.is("the most", x.span(0, 0, 2, 0), 99);
        x.report(0, 0, 1, 2, true);
        Due.is("at HOUR 2 always", x.span(0, 0, 0, 0), 20);
        x.report(0, 0, 1, 2, false);
        Due.is("at HOUR 2 never not", x.span(0, 0, 0, 0), 0);
        BetterThieves y = Due.city("kind a;kind b;thing u of a weight 1 worth 5;thing v of a weight 1 worth 50;"
                + "thing w of b weight 1 worth 50;house h lock 0;law left+10*alike>taken;");
        y.report(0, 0, 1, 0, true);
        Due.is("alike", y.span(0, 0, 2, 0), 59);
        y.report(0, 0, 2, 0, true);
        Due.is("not alike", y.span(0, 0, 2, 0), 49);
    }

    private static void allElseAsTold() {
        BetterThieves x = Due.city(CITY);
        x.report(0, 1, 0, 0, true);
        // a is more than b (50), if all else is as told; b less than a (50)
        Due.is("of a", x.span(0, 0, 1, 0), 51);
        Due.is("of b", x.span(0, 1, 2, 0), 49);
        Due.is("of c, since a is not more than b", x.span(0, 2, 0, 0), 0);
        Due.is("WORTH stays", x.worth(0, 0, false), 50);
        Due.is("law stays", x.may(0, 0, 1, 2, 2), 0);
        Due.is("asked once more", x.span(0, 0, 1, 0), 51);
    }

    private static void ask() {
        Due.by("ASK: the two THINGS (taken, left;"
                + " the first counts most) at HOUR 0 for which the most of the SPAN that are left, whatever is "
                + "reported, are fewest;");
        // a for b leaves 0 .. 49 or 50 .. 99
        BetterThieves x = Due.city(CITY);
        Due.is("a for b", x.ask(0, 0, 0, 0), 1);
        Due.is("50", x.ask(0, 0, 1, 0), 50);
        // a for b, a for c: 52 at the most, c for a: 53; b for a: 49 .. 99 or 0 .. 48
        BetterThieves y = Due.city(Texts.worths(50, 48, 52) + "house ha lock 0;");
        Due.is("b for a", y.ask(0, 0, 0, 0), 10);
        Due.is("51", y.ask(0, 0, 1, 0), 51);
        // b for a: 50 .. 99 or 0 .. 49
        BetterThieves z = Due.city(Texts.worths(50, 49, 80) + "house ha lock 0;");
        Due.is("b for a", z.ask(0, 0, 0, 0), 10);
        Due.is("50", z.ask(0, 0, 1, 0), 50);
    }

    private static void askTies() {
        Due.by("of like ones the first.");
        // nothing parts the SPAN: the first two
        BetterThieves x = Due.city(CITY + "law 1;");
        for (int t = 0; t < 3; t++) {
            Due.is("the first two", x.ask(0, t, 0, 0), 1);
            Due.is("all are left", x.ask(0, t, 1, 0), 100);
        }
        // b for a and c for a alike; a for b, a for c alike
        BetterThieves y = Due.city(Texts.worths(1, 30, 30) + "house ha lock 0;law taken<left and taken>left-100;");
        Due.is("a for b ahead of a for c", y.ask(0, 0, 0, 0), 10);
        Due.is("what is left", y.ask(0, 0, 1, 0), 69);
        BetterThieves z = Due.city(Texts.worths(50, 50, 50) + "house ha lock 0;"
                + "law taken<left+1 and left<taken+1 or taken<50;");
        Due.is("of c: c for a", z.ask(0, 2, 0, 0), 20);
        // taken counts most: 02 ahead of 10
        BetterThieves w = Due.city(Texts.worths(9, 9, 9) + "house ha lock 0;law taken<50 and left<50;");
        Due.is("of c: a for c", w.ask(0, 2, 0, 0), 2);
        Due.is("of b: a for b", w.ask(0, 1, 0, 0), 1);
        Due.is("of a: a for b", w.ask(0, 0, 0, 0), 1);
    }

    private static void askHourZero() {
        BetterThieves x = Due.city(CITY + "law hour=0 and taken<50;");
        Due.is("at HOUR 0", x.ask(0, 0, 1, 0), 50);
        BetterThieves y = Due.city(CITY + "law hour>0 and taken<50;");
        Due.is("not at another", y.ask(0, 0, 1, 0), 100);
        y.waits();
        Due.is("whatever HOUR it is", y.ask(0, 0, 1, 0), 100);
        x.waits();
        Due.is("whatever HOUR it is", x.ask(0, 0, 1, 0), 50);
    }

    private static void askNone() {
        Due.by("NONE if the SPAN is empty, or with less than two THINGS; -2 if one can't be.");
        BetterThieves x = Due.city(CITY);
        x.report(0, 0, 1, 0, true);
        Due.is("half", x.ask(0, 0, 1, 0), 50);
        x.report(0, 0, 1, 0, false);
        Due.is("empty", x.ask(0, 0, 0, 0), -1);
        Due.is("empty", x.ask(0, 0, 1, 0), -1);
        Due.is("as known before", x.ask(0, 0, 0, -1), 1);
        Due.is("in another HOUSE", x.ask(1, 0, 0, 0), 1);
        // a SPAN of one
        BetterThieves one = Due.city(CITY + "law taken=33;");
        one.report(0, 0, 1, 0, true);
        Due.is("of one", one.ask(0, 0, 0, 0), 1);
        Due.is("of one", one.ask(0, 0, 1, 0), 1);
        // a SPAN of two
        BetterThieves two = Due.city(CITY + "law taken/2=33 and hour or left=67;");
        two.report(0, 0, 1, 1, true);
        Due.is("of two", two.span(0, 0, 0, 0), 2);
        Due.is("of two", two.ask(0, 0, 0, 0), 10);
        Due.is("of two", two.ask(0, 0, 1, 0), 1);
    }

    private static void askTwoThings() {
        BetterThieves one = Due.city(Texts.things(1) + "house ha lock 0;");
        Due.is("one THING", one.ask(0, 0, 0, 0), -1);
        Due.is("one THING", one.ask(0, 0, 1, 0), -1);
        Due.is("its SPAN", one.span(0, 0, 0, 0), 100);
        Due.is("no second THING", one.ask(0, 1, 0, 0), -2);
        Due.is("what 2", one.ask(0, 0, 2, 0), -2);
        BetterThieves two = Due.city(Texts.things(2) + "house ha lock 0;");
        Due.is("two THINGS", two.ask(0, 0, 0, 0) >= 0, true);
        BetterThieves none = Due.city("house ha lock 0;");
        Due.is("no THING", none.ask(0, 0, 0, 0), -2);
        Due.is("no HOUSE", Due.city(Texts.things(2)).ask(0, 0, 0, 0), -2);
    }

    private static void askTen() {
        Due.by("ASK what 0: 10 * the one taken and the one left, 1: how many are left at the most;");
        int[] worths = {0, 0, 0, 0, 0, 0, 0, 0, 50, 0};
        BetterThieves x = Due.city(Texts.worths(worths) + "house ha lock 0;law taken>49 and left=50;");
        // only a THING told 50 or more for THING 8 parts the SPAN
        Due.is("of THING 9", x.ask(0, 9, 0, 0), 98);
        Due.is("of THING 9", x.ask(0, 9, 1, 0), 50);
        BetterThieves y = Due.city(Texts.worths(worths) + "house ha lock 0;law left>49 and taken=50;");
        Due.is("of THING 9", y.ask(0, 9, 0, 0), 89);
        BetterThieves full = Due.city(Texts.full());
        Due.is("the last of each", full.ask(4, 9, 0, 0), 1);
        Due.is("HOUSE 5", full.ask(5, 9, 0, 0), -2);
        Due.is("THING 10", full.ask(4, 10, 0, 0), -2);
        Due.is("what 2", full.ask(4, 9, 2, 0), -2);
        Due.is("what -1", full.ask(4, 9, -1, 0), -2);
    }
}
