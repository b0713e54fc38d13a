/** Promises 21 to 24: ROUNDS, when it RESTS, LIES. */
public final class RoundTest {
    private RoundTest() {
    }

    public static void main(String[] args) {
        drift();
        sequence();
        rests();
        neverRests();
        lie();
        Due.finish();
    }

    private static void drift() {
        String city = "night 3;kind a;thing u of a weight 1 worth 5;thing v of a weight 1 worth 7;"
                + "thing w of a weight 1 worth 9;thing n of a weight 1 worth 1;"
                + "house h lock 0 watch 0 has u;house g lock 0 watch 1 has v;thief p sack 9 skill 0 has w;"
                + "dear u to p 20;dear v to p 12;";
        BetterThieves x = Due.city(city);
        // HOUR 0: v for w at g (gain 3); HOUR 1: u for v at h (gain 8)
        int[][] want = {{0, 1, 10, -1}, {0, 10, 1, -1}, {10, 0, 1, -1}, {10, 0, 1, -1}};
        for (int n = 0; n < 4; n++) {
            for (int t = 0; t < 4; t++) {
                Due.is("drift(" + t + ", " + n + ")", x.drift(t, n), want[n][t]);
            }
        }
        Due.is("60", x.drift(0, 60), 10);
        Due.is("61", x.drift(0, 61), -2);
        Due.is("-1", x.drift(0, -1), -2);
        Due.is("no THING", x.drift(4, 1), -2);
        Due.is("THING -1", x.drift(-1, 1), -2);
        int[] house = {5, 5, 7, 7};
        int[] thief = {9, 12, 20, 20};
        for (int n = 0; n < 4; n++) {
            Due.is("sums of h " + n, x.sums(0, false, n), house[n]);
            Due.is("sums of p " + n, x.sums(0, true, n), thief[n]);
        }
        Due.is("60", x.sums(0, true, 60), 20);
        Due.is("61", x.sums(0, true, 61), -1);
        Due.is("-1", x.sums(0, true, -1), -1);
        Due.is("no THIEF", x.sums(1, true, 1), -1);
        Due.is("no HOUSE", x.sums(2, false, 1), -1);
        Due.is("nothing is done", x.about(5), 0);
        Due.is("nothing is done", x.has(0, true), 4);
        Due.is("nothing is done", x.about(9), 0);
        Due.is("rests", x.rests(), 5);
    }

    private static void sequence() {
        // p is first; what he leaves is for q in the same HOUR
        String city = "night 3;kind a;thing u of a weight 1 worth 5;thing v of a weight 1 worth 7;"
                + "thing w of a weight 1 worth 9;house h lock 0 watch 2 has u;"
                + "thief p sack 9 skill 0 has v;thief q sack 9 skill 0 has w;dear u to p 20;dear v to q 30;";
        BetterThieves x = Due.city(city);
        Due.is("p has u", x.drift(0, 1), 10);
        Due.is("q has v", x.drift(1, 1), 11);
        Due.is("h has w", x.drift(2, 1), 0);
        // in JAIL p does nothing till the next NIGHT
        x.waits();
        x.waits();
        Due.is("caught in the last HOUR", x.theft(0, 0, 1, 2), 2);
        Due.is("out already", x.drift(0, 1), 10);
        BetterThieves y = Due.city(city.replace("watch 2", "watch 0"));
        Due.is("caught", y.theft(0, 0, 1, 2), 2);
        Due.is("in JAIL", y.drift(0, 1), 0);
        Due.is("in JAIL", y.drift(0, 2), 0);
        Due.is("out, but watched", y.drift(0, 3), 0);
        Due.is("out", y.drift(0, 4), 10);
        // a GAIN of 0 is not enough
        BetterThieves z = Due.city("kind a;thing u of a weight 1 worth 5;thing v of a weight 1 worth 7;"
                + "house h lock 0 has u;thief p sack 9 skill 0 has v;dear u to p 7;");
        Due.is("GAIN 0", z.best(0), 0);
        Due.is("stays", z.drift(0, 9), 0);
        Due.is("rests", z.rests(), 6);
    }

    private static void rests() {
        BetterThieves x = new BetterThieves();
        Due.is("empty", x.rests(), 6);
        Due.feed(x, "night 9;");
        x.city();
        Due.is("night 9", x.rests(), 9);
        Due.feed(x, "night 1;");
        x.city();
        Due.is("night 1", x.rests(), 1);
        String city = "night 4;kind a;thing u of a weight 1 worth 5;thing v of a weight 1 worth 7;"
                + "house h lock 0 watch 0 watch 1 watch 2 has u;thief p sack 9 skill 0 has v;dear u to p 20;";
        Due.feed(x, city);
        x.city();
        Due.is("moved in the fourth HOUR", x.rests(), 8);
        x.waits();
        Due.is("moved in the third HOUR", x.rests(), 7);
    }

    private static void neverRests() {
        // p and q take from each other without end: u, v go to and fro
        BetterThieves x = Due.city("night 2;kind a;thing u of a weight 1 worth 5;thing v of a weight 1 worth 5;"
                + "thing w of a weight 1 worth 5;house h lock 0 has u;thief p sack 9 skill 0 has v;"
                + "thief q sack 9 skill 0 has w;dear u to p 1;dear v to p 2;dear w to p 3;"
                + "dear u to q 2;dear v to q 3;dear w to q 1;law 1;");
        int got = x.rests();
        // p: v for w never, since h has u (1); q takes u (2) for w (1); p takes w (3) for v (2); q v (3) for u (2)
        Due.is("drift of w", x.drift(2, 2), 10);
        Due.is("drift of v", x.drift(1, 2), 11);
        Due.is("drift of u", x.drift(0, 2), 0);
        Due.is("rests", got, 4);
        // skill alone tells who may: what the one may take, the other may not, and worths go round
        BetterThieves y = Due.city("night 9;kind a;thing u of a weight 1 worth 5;thing v of a weight 1 worth 5;"
                + "thing w of a weight 1 worth 5;thing x of a weight 1 worth 5;house h lock 0 has u has v;"
                + "thief p sack 9 skill 0 has w has x;dear u to p 9;dear v to p 9;dear w to p 1;dear x to p 1;"
                + "law hour=8;");
        Due.is("at HOUR 8 of NIGHT 0 and 1", y.rests(), 27);
        StringBuilder b = new StringBuilder("night 9;kind a;");
        for (int i = 0; i < 10; i++) {
            b.append("thing ").append((char) ('a' + i)).append(" of a weight 1 worth ").append(i).append(";");
        }
        b.append("house h lock 0 has b has c has d has e has f has g has h has i has j;");
        BetterThieves z = Due.city(b + "thief p sack 9 skill 0 has a;law taken=left+1 and hour=8;");
        // one at a time, at the last HOUR of each NIGHT: behind 60 HOURS it has not rested
        Due.is("not in 60 HOURS", z.rests(), -1);
        Due.is("drift", z.drift(6, 60), 10);
        Due.is("drift", z.drift(7, 60), 0);
    }

    private static void lie() {
        String city = "kind a;thing u of a weight 1 worth 5;thing v of a weight 1 worth 7;"
                + "thing w of a weight 1 worth 6;house h lock 0 has u;house g lock 0;"
                + "thief p sack 9 skill 0 has v has w;dear u to p 30;";
        BetterThieves x = Due.city(city);
        // true: u for w, h has 6; u told 6: for v, 7; told 7: for both, 13
        Due.is("lie", x.lie(0, 1, 0), 13);
        Due.is("its THING", x.lie(0, 1, 1), 0);
        Due.is("its WORTH", x.lie(0, 1, 2), 7);
        Due.is("no gain by it", x.lie(1, 1, 0), 0);
        Due.is("none", x.lie(1, 1, 1), -1);
        Due.is("none", x.lie(1, 1, 2), -1);
        Due.is("n 0", x.lie(0, 0, 0), -2);
        Due.is("n 5", x.lie(0, 5, 0), -2);
        Due.is("n 4", x.lie(0, 4, 0), 13);
        Due.is("what 3", x.lie(0, 1, 3), -2);
        Due.is("what -1", x.lie(0, 1, -1), -2);
        Due.is("no HOUSE", x.lie(2, 1, 0), -2);
        Due.is("HOUSE -1", x.lie(-1, 1, 0), -2);
        // a THING that is not there may be lied about: w told 20 is no better, v told 0 leaves w alone
        BetterThieves y = Due.city("kind a;thing u of a weight 1 worth 50;thing v of a weight 1 worth 40;"
                + "house h lock 0 has v;thief p sack 9 skill 0 has u;dear v to p 60;dear u to h 9;");
        // true: u is 9, no SWAP; h keeps 40
        Due.is("nothing better", y.lie(0, 2, 0), 40);
        Due.is("none", y.lie(0, 2, 1), -1);
        BetterThieves z = Due.city("kind a;thing u of a weight 1 worth 15;thing v of a weight 1 worth 10;"
                + "house h lock 0 has v;thief p sack 9 skill 0 has u;dear v to p 60;law taken>14;");
        // v told 15 lets him take it for u
        Due.is("to be robbed is better", z.lie(0, 1, 0), 15);
        Due.is("its THING", z.lie(0, 1, 1), 1);
        Due.is("its WORTH", z.lie(0, 1, 2), 15);
        BetterThieves most = Due.city("kind a;thing u of a weight 1 worth 15;thing v of a weight 1 worth 10;"
                + "house h lock 0 has v;thief p sack 9 skill 0 has u;dear v to p 60;law taken>19;");
        Due.is("20 is the most", most.lie(0, 1, 2), 20);
        BetterThieves more = Due.city("kind a;thing u of a weight 1 worth 15;thing v of a weight 1 worth 10;"
                + "house h lock 0 has v;thief p sack 9 skill 0 has u;dear v to p 60;law taken>20;");
        Due.is("21 is more", more.lie(0, 1, 2), -1);
        BetterThieves least = Due.city("kind a;thing u of a weight 1 worth 15;thing v of a weight 1 worth 10;"
                + "house h lock 0 has v;thief p sack 9 skill 0 has u;dear v to p 60;law taken<1;");
        Due.is("0 is the least", least.lie(0, 1, 2), 0);
        Due.is("nothing is told in earnest", z.may(0, 0, 2, 1, 2), 0);
        Due.is("true WORTH stays", z.worth(1, 0, false), 10);
    }
}
