/** Promises 29 to 33: REPORTS, TIME, SPAN, ASK. */
public final class ReportTest {
    private static final String CITY = "night 3;kind a;kind b;thing u of a weight 1 worth 5;"
            + "thing v of b weight 1 worth 7;thing w of a weight 1 worth 6;"
            + "house h lock 0 has u;house g lock 0;thief p sack 9 skill 5 has v;";

    private ReportTest() {
    }

    public static void main(String[] args) {
        reports();
        times();
        spans();
        laws();
        asks();
        Due.finish();
    }

    private static void reports() {
        BetterThieves x = Due.city(CITY);
        Due.is("no HOUSE", x.report(2, 0, 1, 0, true), -1);
        Due.is("HOUSE -1", x.report(-1, 0, 1, 0, true), -1);
        Due.is("no THING", x.report(0, 3, 1, 0, true), -1);
        Due.is("no THING", x.report(0, 0, 3, 0, true), -1);
        Due.is("THING -1", x.report(0, -1, 1, 0, true), -1);
        Due.is("THING -1", x.report(0, 0, -1, 0, true), -1);
        Due.is("the same twice", x.report(0, 1, 1, 0, true), -1);
        Due.is("HOUR 3", x.report(0, 0, 1, 3, true), -1);
        Due.is("HOUR -1", x.report(0, 0, 1, -1, true), -1);
        Due.is("none yet", x.about(11), 0);
        Due.is("untell none", x.untell(0), false);
        for (int i = 0; i < 30; i++) {
            Due.is("report", x.report(i % 2, 0, 1, i % 3, true), i);
        }
        Due.is("30", x.report(0, 0, 1, 0, true), -1);
        Due.is("30", x.about(11), 30);
        Due.is("untell", x.untell(29), true);
        Due.is("untold already", x.untell(29), false);
        Due.is("no such", x.untell(30), false);
        Due.is("no such", x.untell(-1), false);
        Due.is("still 30", x.report(0, 0, 1, 0, true), -1);
    }

    private static void times() {
        BetterThieves x = Due.city(CITY);
        Due.is("later(0)", x.later(0), 0);
        Due.is("later(-1)", x.later(-1), -1);
        Due.is("later(1001)", x.later(1001), -1);
        Due.is("later(min)", x.later(Integer.MIN_VALUE), -1);
        for (int i = 1; i <= 99; i++) {
            Due.is("later(1000)", x.later(1000), 1000 * i);
        }
        Due.is("later(999)", x.later(999), 99999);
        Due.is("above 100,000", x.later(2), -1);
        Due.is("about(12)", x.about(12), 99999);
        Due.is("100,000", x.later(1), 100000);
        Due.is("above 100,000", x.later(1), -1);
        Due.is("later(0)", x.later(0), 100000);
        Due.feed(x, CITY);
        x.city();
        Due.is("the TIME stays", x.about(12), 100000);
    }

    private static void spans() {
        BetterThieves x = Due.city(CITY);
        Due.is("nothing known", x.span(0, 0, 0, 0), 100);
        Due.is("nothing known", x.span(0, 0, 1, 0), 0);
        Due.is("nothing known", x.span(0, 0, 2, 0), 99);
        x.later(3);
        x.report(0, 0, 1, 0, true);
        x.later(2);
        x.report(0, 2, 0, 0, true);
        x.later(2);
        x.untell(0);
        x.report(1, 0, 1, 0, false);
        // in h: told at 3, untold at 7: u < v (7); told at 5: u > w (6)
        int[][] want = {{2, 100, 0, 99}, {3, 7, 0, 6}, {4, 7, 0, 6}, {5, 0, -1, -1}, {6, 0, -1, -1}, {7, 93, 7, 99},
            {1000, 93, 7, 99}, {-1, 100, 0, 99}};
        for (int[] w : want) {
            Due.is("how many at " + w[0], x.span(0, 0, 0, w[0]), w[1]);
            Due.is("least at " + w[0], x.span(0, 0, 1, w[0]), w[2]);
            Due.is("most at " + w[0], x.span(0, 0, 2, w[0]), w[3]);
        }
        Due.is("of that HOUSE alone", x.span(1, 0, 1, 7), 7);
        Due.is("of that HOUSE alone", x.span(1, 0, 0, 7), 93);
        Due.is("of that HOUSE alone", x.span(1, 0, 0, 6), 100);
        // all else as told: v is not in that which counts, but u (5) is not more than w (6)
        Due.is("of another THING", x.span(0, 1, 0, 7), 0);
        Due.is("no HOUSE", x.span(2, 0, 0, 0), -2);
        Due.is("no THING", x.span(0, 3, 0, 0), -2);
        Due.is("THING -1", x.span(0, -1, 0, 0), -2);
        Due.is("what 3", x.span(0, 0, 3, 0), -2);
        Due.is("what -1", x.span(0, 0, -1, 0), -2);
        Due.is("true WORTH stays", x.worth(0, 0, false), 5);
        Due.is("true law stays", x.may(0, 0, 1, 2, 2), 1);
        // UNTOLD at the same TIME: it never counted
        BetterThieves y = Due.city(CITY);
        y.report(0, 0, 1, 0, true);
        y.untell(0);
        Due.is("told and untold at 0", y.span(0, 0, 0, 0), 100);
    }

    private static void laws() {
        BetterThieves x = Due.city(CITY + "law left+alike>taken and skill=0 and took=1 and gave=1 and hour<2;");
        x.report(0, 0, 2, 1, true);
        // u < w + 1 = 7, since they are of a KIND
        Due.is("alike", x.span(0, 0, 2, 0), 6);
        x.report(0, 0, 2, 2, true);
        Due.is("never at HOUR 2", x.span(0, 0, 0, 0), 0);
        Due.is("ask of an empty SPAN", x.ask(0, 0, 0, 0), -1);
        Due.is("ask of an empty SPAN", x.ask(0, 0, 1, 0), -1);
        // a SPAN with a hole
        BetterThieves y = Due.city(CITY + "law (taken%10=3)+(taken=0);");
        y.report(0, 0, 1, 0, true);
        Due.is("hole, how many", y.span(0, 0, 0, 0), 11);
        Due.is("hole, least", y.span(0, 0, 1, 0), 0);
        Due.is("hole, most", y.span(0, 0, 2, 0), 93);
    }

    private static void asks() {
        BetterThieves x = Due.city("night 3;kind a;thing u of a weight 1 worth 5;thing v of a weight 1 worth 70;"
                + "thing w of a weight 1 worth 60;house h lock 0;");
        // u taken for w: 60 (0 .. 59) to 40; w for u: 39 (61 .. 99) to 61; u for v: 70 to 30
        Due.is("ask", x.ask(0, 0, 0, 0), 2);
        Due.is("at the most", x.ask(0, 0, 1, 0), 60);
        x.report(0, 0, 2, 0, true);
        // u is below 60: nothing parts that but v of 70, w of 60, which don't
        Due.is("behind it", x.ask(0, 0, 0, 0), 1);
        Due.is("behind it", x.ask(0, 0, 1, 0), 60);
        Due.is("as known before", x.ask(0, 0, 1, -1), 60);
        Due.is("of v", x.ask(0, 1, 0, -1), 12);
        Due.is("of v", x.ask(0, 1, 1, -1), 60);
        Due.is("no HOUSE", x.ask(1, 0, 0, 0), -2);
        Due.is("no THING", x.ask(0, 3, 0, 0), -2);
        Due.is("THING -1", x.ask(0, -1, 0, 0), -2);
        Due.is("what 2", x.ask(0, 0, 2, 0), -2);
        Due.is("what -1", x.ask(0, 0, -1, 0), -2);
        BetterThieves one = Due.city("kind a;thing u of a weight 1 worth 5;house h lock 0;");
        Due.is("one THING", one.ask(0, 0, 0, 0), -1);
        Due.is("one THING", one.ask(0, 0, 1, 0), -1);
        // at HOUR 0 alone
        BetterThieves y = Due.city("kind a;thing u of a weight 1 worth 5;thing v of a weight 1 worth 50;"
                + "house h lock 0;law hour and left>taken or skill;");
        Due.is("all alike at HOUR 0", y.ask(0, 0, 0, 0), 1);
        Due.is("all alike at HOUR 0", y.ask(0, 0, 1, 0), 100);
        BetterThieves z = Due.city("kind a;thing u of a weight 1 worth 5;thing v of a weight 1 worth 9;"
                + "house h lock 0;law left>49;");
        Due.is("left counts", z.ask(0, 1, 0, 0), 1);
        Due.is("left counts", z.ask(0, 1, 1, 0), 50);
        Due.is("left counts", z.ask(0, 0, 0, 0), 10);
    }
}
