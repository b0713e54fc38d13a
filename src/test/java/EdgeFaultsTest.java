/** Which FAULT a text has and where, sentence by sentence; promises 4 and 5. */
public final class EdgeFaultsTest {
    private static final String BEGIN = "kind a;thing x of a weight 1 worth 2;house h lock 1 has x;";
    private static final int AT = BEGIN.length();

    private EdgeFaultsTest() {
    }

    public static void main(String[] args) {
        firstByPlace();
        endOfText();
        leastAtOnePlace();
        noToken();
        cantStand();
        lineTooMany();
        toldAlready();
        noNumber();
        noSuchName();
        everyCut();
        latestCity();
        tapeIsEmptyThen();
        allStays();
        allAsTold();
        cityBehindCity();
        Due.finish();
    }

    private static void firstByPlace() {
        Due.by("FAULTS, the first by its place (bytes from 0;");
        String[] parts = {"kind #;", "kind ;", "kind a;kind a;", "house h lock 10;", "thing x of b weight 1 worth 1;"};
        int[] sorts = {1, 2, 3, 4, 5};
        int[] places = {5, 5, 12, 13, 11};
        for (int i = 0; i < parts.length; i++) {
            Due.faulty(parts[i], sorts[i], places[i]);
            for (String behind : parts) {
                Due.faulty(parts[i] + behind, sorts[i], places[i]);
                Due.faulty("kind q;" + parts[i] + behind, sorts[i], places[i] + 7);
            }
        }
        Due.faulty("#kind a;", 1, 0);
        Due.faulty("kind a;kind b;#", 1, 14);
    }

    private static void endOfText() {
        Due.by("the end: the text's length)");
        Due.faulty("k", 2, 0);
        Due.faulty("kind", 2, 4);
        Due.faulty("kind ", 2, 5);
        Due.faulty("kind\n\n\n", 2, 7);
        Due.faulty("kind a", 2, 6);
        Due.faulty("kind a \n", 2, 8);
        Due.faulty("law", 2, 3);
        Due.faulty("law not ", 2, 8);
        Due.faulty("law (1", 2, 6);
        Due.faulty("house h lock 1 watch ", 2, 21);
        Due.faulty(BEGIN + "dear x to h", 2, AT + 11);
        Due.sound("kind a;", 0);
    }

    private static void leastAtOnePlace() {
        Due.by("at one place the least:");
        // 1 and 2
        Due.faulty("abcdefghi", 1, 0);
        Due.faulty("kind 12345;", 1, 5);
        Due.faulty("kind a 1b;", 1, 7);
        Due.faulty("law 1" + "+1".repeat(29) + "+#", 1, 64);
        Due.faulty("law 1" + "+1".repeat(29) + "+12345", 1, 64);
        Due.faulty("law 1" + "+1".repeat(29) + "+1x", 1, 64);
        // 1 and 4
        Due.faulty("night 00000;", 1, 6);
        Due.faulty("house h lock 10x;", 1, 13);
        // 1 and 3, 1 and 5
        Due.faulty("kind aaaaaaaa;kind aaaaaaaaa;", 1, 19);
        Due.faulty(BEGIN + "dear yyyyyyyyy to h 1;", 1, AT + 5);
        // 2 and 4, 2 and 3, 2 and 5: one that can't stand there is not looked at further
        Due.faulty("house h lock a;", 2, 13);
        Due.faulty("kind a;kind 1;", 2, 12);
        Due.faulty("kind a;thing x of of weight 1 worth 1;", 2, 18);
    }

    private static void noToken() {
        Due.by("1 no TOKEN;");
        Due.faulty("kind a#;", 1, 6);
        Due.faulty("kind a;thing x of a weight 1 worth 2.5;", 1, 36);
        Due.faulty("law left>=taken.", 2, 9);
        Due.faulty("law left!=taken;", 1, 8);
        Due.faulty("law left,taken;", 1, 8);
        Due.faulty("KIND a;", 1, 0);
        Due.faulty("kind a;" + (char) 0, 1, 7);
        Due.faulty("kind a;" + (char) 9, 1, 7);
        Due.faulty("kind a;" + (char) 13, 1, 7);
        Due.faulty("kind a;" + (char) 127, 1, 7);
        Due.faulty("kind a;" + (char) 160, 1, 7);
        Due.faulty("kind a;" + (char) 255, 1, 7);
        // bytes whose lower bits would be a letter, a digit, a blank, a sign
        Due.faulty("kind " + (char) (128 + 'a') + ";", 1, 5);
        Due.faulty("law " + (char) (128 + '1') + ";", 1, 4);
        Due.faulty("kind a" + (char) (128 + ';'), 1, 6);
    }

    private static void cantStand() {
        Due.by("2 one that can't stand there (one of a sort too many, a second time, night behind another line: at "
                + "the line's first word;");
        String[] lines = {"night 3;", "kind a;", "thing x of a weight 1 worth 2;", "house h lock 1 watch 1 has x;",
            "thief p sack 1 skill 1 has x;", "dear x to h 3;", "law not left;"};
        String[] ahead = {"", "", "kind a;", "kind a;thing x of a weight 1 worth 2;",
            "kind a;thing x of a weight 1 worth 2;", BEGIN, ""};
        for (int i = 0; i < lines.length; i++) {
            everyTokenSpoilt(ahead[i], lines[i]);
        }
    }

    /** With a sign that stands nowhere there in place of each TOKEN; one ahead of each, too. */
    private static void everyTokenSpoilt(String ahead, String line) {
        Due.is("city() of " + ahead + line, Due.city(ahead + line).fault(0), 0);
        for (int i = 0; i < line.length(); i++) {
            boolean begins = line.charAt(i) != ' ' && (i == 0 || line.charAt(i - 1) == ' ' || line.charAt(i) == ';');
            if (begins) {
                int end = i;
                while (end < line.length() && line.charAt(end) != ' ' && line.charAt(end) != ';') {
                    end++;
                }
                Due.faulty(ahead + line.substring(0, i) + ")" + line.substring(end), 2, ahead.length() + i);
                Due.faulty(ahead + line.substring(0, i) + ")" + line.substring(i), 2, ahead.length() + i);
                int place = weightPlace(ahead, line, i);
                Due.faulty(ahead + line.substring(0, i) + " weight " + line.substring(i), 2, place);
            }
        }
    }

    /** Where weight stands for itself it may stand once; a second one is the FAULT. */
    private static int weightPlace(String ahead, String line, int i) {
        boolean doubled = line.startsWith("weight", i);
        return ahead.length() + i + (doubled ? 8 : 1);
    }

    private static void lineTooMany() {
        String crowd = Texts.full().replace("law", "\nlaw");
        for (String line : new String[] {"kind x;", "thing x of ka weight 1 worth 1;", "house x lock 1;",
            "thief x sack 1 skill 1;", "dear a to hd 1;", "law 1;", "night 1;"}) {
            Due.faulty(crowd + line, 2, crowd.length());
            Due.faulty(crowd + "\n " + line, 2, crowd.length() + 2);
        }
    }

    private static void toldAlready() {
        Due.by("3 a NAME told already (of its sort), a THING that some HOLDER has, an HOUR told already for that "
                + "watch, a THING told dear to that HOLDER already (at the HOLDER's NAME);");
        Due.faulty("kind a;kind b;kind a;", 3, 19);
        Due.faulty("kind a;kind b;kind b;", 3, 19);
        Due.faulty(BEGIN + "thing x", 3, AT + 6);
        Due.faulty(BEGIN + "house h", 3, AT + 6);
        Due.faulty(BEGIN + "thief h", 3, AT + 6);
        Due.sound(BEGIN + "kind x;kind h;thing a of a weight 1 worth 1;house a lock 1;thief x sack 1 skill 1;", 2);
        Due.faulty(BEGIN + "house g lock 1 has x", 3, AT + 19);
        Due.faulty("kind a;thing x of a weight 1 worth 2;house h lock 1 has x has x", 3, 62);
        Due.faulty("house h lock 1 watch 2 watch 2", 3, 29);
        Due.faulty("house h lock 1 watch 2 watch 0002", 3, 29);
        Due.faulty(BEGIN + "dear x to h 1;dear x to h", 3, AT + 24);
        Due.faulty(BEGIN + "dear x to h 1;dear x to h 100;", 3, AT + 24);
    }

    private static void noNumber() {
        Due.by("4 a number that can't be;");
        Due.faulty("night 0", 4, 6);
        Due.faulty("night 10", 4, 6);
        Due.faulty("kind a;thing x of a weight 100", 4, 27);
        Due.faulty("kind a;thing x of a weight 1 worth 100", 4, 35);
        Due.faulty("house h lock 10", 4, 13);
        Due.faulty("house h lock 1 watch 6", 4, 21);
        Due.faulty("thief p sack 1000", 4, 13);
        Due.faulty("thief p sack 1 skill 10", 4, 21);
        Due.faulty(BEGIN + "dear x to h 100", 4, AT + 12);
        Due.sound("law 9999;", 0);
    }

    private static void noSuchName() {
        Due.by("5 a NAME that nothing of the sort has.");
        Due.faulty("kind a;thing x of x", 5, 18);
        Due.faulty(BEGIN + "thing y of h", 5, AT + 11);
        Due.faulty(BEGIN + "house g lock 1 has h", 5, AT + 19);
        Due.faulty(BEGIN + "house g lock 1 has a", 5, AT + 19);
        Due.faulty(BEGIN + "thief p sack 1 skill 1 has y", 5, AT + 27);
        Due.faulty(BEGIN + "dear h to h 1", 5, AT + 5);
        Due.faulty(BEGIN + "dear x to x 1", 5, AT + 10);
        Due.faulty(BEGIN + "dear y to y 1", 5, AT + 5);
    }

    /** A text cut off anywhere: where a line ends it is sound, else its end or its last TOKEN is the FAULT. */
    private static void everyCut() {
        String text = "night 3;" + BEGIN + "thief p sack 9 skill 1;dear x to p 3;law not (left+1)>taken;";
        for (int n = 0; n <= text.length(); n++) {
            BetterThieves x = new BetterThieves();
            Due.feed(x, text.substring(0, n));
            boolean whole = n == 0 || text.charAt(n - 1) == ';';
            Due.is("whole up to " + n, x.city() != -1, whole);
            Due.is("fault up to " + n, x.fault(0) == 0, whole);
            Due.is("place up to " + n, x.fault(1) <= n, true);
        }
    }

    private static void latestCity() {
        Due.by("Of the latest city() what 0: its FAULT (0), 1: its place (NONE). NONE for another what.");
        BetterThieves x = new BetterThieves();
        faultIs(x, 0, -1);
        Due.feed(x, "kind a;kind a;");
        faultIs(x, 0, -1);
        x.city();
        faultIs(x, 3, 12);
        Due.feed(x, "#");
        faultIs(x, 3, 12);
        x.city();
        faultIs(x, 1, 0);
        x.city();
        faultIs(x, 0, -1);
        Due.feed(x, "kind");
        x.city();
        faultIs(x, 2, 4);
        Due.feed(x, "kind a;");
        x.city();
        faultIs(x, 0, -1);
    }

    private static void faultIs(BetterThieves x, int sort, int place) {
        Due.is("fault(0)", x.fault(0), sort);
        Due.is("fault(1)", x.fault(1), place);
        for (int what : new int[] {-1, 2, 3, 32, 33, Integer.MIN_VALUE, Integer.MAX_VALUE}) {
            Due.is("fault(" + what + ")", x.fault(what), -1);
        }
    }

    private static void tapeIsEmptyThen() {
        Due.by("The TAPE (empty then) is the CITY");
        BetterThieves x = new BetterThieves();
        Due.feed(x, "kind a;");
        Due.is("city", x.city(), 0);
        Due.is("bytes", x.about(13), 0);
        Due.is("end(1)", x.end(1), -1);
        Due.is("feed", x.feed(0, 0, 0, 0, 0), 20);
        Due.is("city", x.city(), -1);
        Due.is("bytes behind a FAULT", x.about(13), 0);
        Due.is("an empty TAPE is an empty CITY", x.city(), 0);
        Due.is("KINDS", x.about(3), 0);
    }

    private static BetterThieves busy() {
        BetterThieves x = Due.city("night 3;" + BEGIN + "thing y of a weight 1 worth 9;thief p sack 9 skill 1 has y;"
                + "dear x to p 50;law left>taken;");
        x.report(0, 0, 1, 0, true);
        x.later(7);
        x.image(0);
        x.image(2);
        x.theft(0, 0, 1, 0);
        x.waits();
        x.waits();
        x.waits();
        x.undo();
        x.best(0);
        x.gift(0, 0, false);
        x.gift(1, 0, false);
        x.undo();
        x.best(0);
        return x;
    }

    private static void allStays() {
        Due.by("NONE: a FAULT (all stays).");
        BetterThieves x = busy();
        int[] before = new int[16];
        for (int i = 0; i < 16; i++) {
            before[i] = x.about(i);
        }
        Due.is("something lies there", before[15], 3);
        Due.is("ACTS", before[9], 4);
        Due.is("and one taken back", before[10], 1);
        for (String text : new String[] {"#", "kind", Texts.full() + "law", "night 9;kind a;kind b;law 1;law"}) {
            Due.feed(x, text);
            Due.is("city", x.city(), -1);
            for (int i = 0; i < 16; i++) {
                Due.is("about(" + i + ") behind a FAULT", x.about(i), before[i]);
            }
        }
        Due.is("law", x.may(0, 0, 1, 2, 2), 1);
        Due.is("WORTH", x.worth(0, 0, true), 50);
        Due.is("SPAN", x.span(0, 0, 0, 7), 9);
        Due.is("redo", x.redo(), true);
        Due.is("undo", x.undo(), true);
        Due.is("BOX 0", x.back(0), 0);
        Due.is("BOX 1", x.back(1), -1);
    }

    private static void allAsTold() {
        Due.by("(all as told, no ACTS are kept, REPORTS are none, nothing lies there, BOXES are empty then;"
                + " the TIME stays): how many THINGS;");
        BetterThieves x = busy();
        Due.feed(x, "night 3;" + BEGIN + "thing y of a weight 1 worth 9;thief p sack 9 skill 1 has y;");
        Due.is("city", x.city(), 2);
        int[] want = {2, 1, 1, 1, 0, 0, 3, 0, 0, 0, 0, 0, 7, 0, 0, 0};
        for (int i = 0; i < 16; i++) {
            Due.is("about(" + i + ") of another CITY", x.about(i), want[i]);
        }
        Due.is("undo", x.undo(), false);
        Due.is("redo", x.redo(), false);
        for (int box = 0; box < 3; box++) {
            Due.is("back", x.back(box), -1);
            Due.is("who", x.who(box), -1);
        }
        Due.is("lies", x.lies(0), BetterThieves.GAP);
        Due.is("untell", x.untell(0), false);
        Due.is("report", x.report(0, 0, 1, 0, true), 0);
        Due.is("dear no more", x.worth(0, 0, true), 2);
        Due.is("THING 0", x.thing(0, 3), 0);
        Due.is("THING 1", x.thing(1, 4), 0);
        Due.is("CRIMES", x.thief(0, 1), 0);
        Due.feed(x, "");
        Due.is("the empty one", x.city(), 0);
        Due.is("no THING", x.thing(0, 0), -2);
        Due.is("no HOUSE", x.has(0, false), -1);
        Due.is("no THIEF", x.has(0, true), -1);
    }

    /** Whatever was told and done before, a CITY is as if it were the first one. */
    private static void cityBehindCity() {
        String[] texts = {"", "night 9;law 1;", "night 1;house h lock 1 watch 0;", busyText(),
            Texts.things(10) + Texts.houses(2) + Texts.dears(20), BEGIN + "dear x to h 9;",
            Texts.kinds(6) + Texts.houses(5), Texts.thieves(4) + "law left-left;"};
        String[] faults = {"night 9;law 1;kind a;kind a;", "#",
            Texts.things(3) + "house ha lock 0 watch 1 has a has a;"};
        for (int i = 0; i < texts.length; i++) {
            for (int j = 0; j < texts.length; j++) {
                BetterThieves x = Due.city(texts[i]);
                stir(x);
                // what one of them leaves may be seen in the next but one alone
                for (int k = 0; k < 2; k++) {
                    Due.feed(x, faults[(i + j + k) % faults.length]);
                    x.city();
                }
                Due.feed(x, texts[(i + j) % texts.length]);
                x.city();
                stir(x);
                Due.feed(x, texts[j]);
                x.city();
                Twins.alike("CITY " + j + " behind CITY " + i, x, Due.city(texts[j]), true);
            }
        }
    }

    private static String busyText() {
        return "night 2;" + BEGIN + "thing y of a weight 1 worth 9;thief p sack 9 skill 1 has y;"
                + "house g lock 1 watch 0;dear y to g 3;law not taken;";
    }

    private static void stir(BetterThieves x) {
        x.gift(0, 1, false);
        x.gift(1, 0, true);
        x.theft(0, 1, 1, 0);
        x.theft(0, 0, 1, 0);
        x.image(1);
        x.waits();
        x.report(0, 1, 0, 0, true);
        x.best(0);
        x.span(0, 0, 0, 0);
        x.lie(0, 1, 0);
        x.tour(0, 0);
        x.undo();
        x.gift(0, 1, false);
        x.theft(0, 1, 1, 0);
    }
}
