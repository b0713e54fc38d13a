/** The edges of a law: its units, what is within what, and what comes of it, sentence by sentence. */
public final class EdgeFormulaTest {
    private EdgeFormulaTest() {
    }

    public static void main(String[] args) {
        unitsInOne();
        unitCount();
        within();
        tooDeep();
        grammar();
        notZero();
        givens();
        alike();
        wrapping();
        dividing();
        relations();
        order();
        without();
        Due.finish();
    }

    private static void unitsInOne() {
        Due.by("60 units in all, 30 in one e");
        Due.is("all thirty are there", Due.city("law 1" + "+1".repeat(29) + ";").about(14), 30);
        Due.by("a unit too many, what is within 7 others: at its first TOKEN, or the not);");
        for (String sign : new String[] {"+", "-", "*", "/", "%", " and ", " or "}) {
            String thirty = "law 1" + (sign + "1").repeat(29);
            Due.sound(thirty + ";", 0);
            Due.faulty(thirty + sign + "1;", 2, thirty.length() + sign.length());
        }
        String relations = "law 1<1" + " and 1<1".repeat(14);
        Due.sound(relations + ";", 0);
        Due.faulty(relations + " and 1;", 2, relations.length() + 5);
        Due.faulty(relations + "<1;", 2, relations.length());
        for (String unit : new String[] {"taken", "left", "took", "gave", "alike", "hour", "skill", "9999"}) {
            String thirty = "law " + unit + ("+" + unit).repeat(29);
            Due.sound(thirty + ";", 0);
            Due.faulty(thirty + "+" + unit + ";", 2, thirty.length() + 1);
        }
        // a unit ( e ) is one, beside those in it
        String fifteen = "law (1)" + "+(1)".repeat(14);
        Due.sound(fifteen + ";", 0);
        Due.faulty(fifteen + "+(1);", 2, fifteen.length() + 1);
        String odd = "law 1" + "+(1)".repeat(14);
        Due.sound(odd + "+1;", 0);
        Due.faulty(odd + "+(1);", 2, odd.length() + 2);
        Due.faulty(odd + "+(1", 2, odd.length() + 2);
    }

    private static void unitCount() {
        Due.by("14: units");
        Due.is("no law", Due.city("kind a;").about(14), 0);
        Due.is("empty", new BetterThieves().about(14), 0);
        Due.is("one", Due.city("law 0;").about(14), 1);
        Due.is("a not is none", Due.city("law not not 0;").about(14), 1);
        Due.is("( e ) is one", Due.city("law ((0));").about(14), 3);
        Due.is("full", Due.city("law 1" + "*1".repeat(29) + ";").about(14), 30);
    }

    private static void within() {
        Due.by("(a unit ( e ), or a one behind not, within 6 others at most)");
        // each sort of nest, seven deep, with a plain unit in it
        for (int mask = 0; mask < 128; mask++) {
            Due.sound("law " + nest(mask, 7) + "1" + closed(mask, 7) + ";", 0);
            for (int sort = 0; sort < 2; sort++) {
                int eight = mask | sort << 7;
                String text = "law " + nest(eight, 8) + "1" + closed(eight, 8) + ";";
                Due.faulty(text, 2, 4 + nest(mask, 7).length());
            }
        }
    }

    /** From the outer to the inner: a bit 1 is a not, a bit 0 a unit ( e ). */
    private static String nest(int mask, int depth) {
        StringBuilder b = new StringBuilder();
        for (int i = 0; i < depth; i++) {
            b.append((mask >> i & 1) == 1 ? "not " : "(");
        }
        return b.toString();
    }

    private static String closed(int mask, int depth) {
        return ")".repeat(depth - Integer.bitCount(mask));
    }

    private static void tooDeep() {
        Due.by("what is within 7 others: at its first TOKEN, or the not);");
        Due.faulty("law ((((((((", 2, 11);
        Due.faulty("law not not not not not not not not", 2, 32);
        // what stands beside is not within
        Due.sound("law (((((((1)))))))+(((((((1)))))));", 0);
        Due.sound("law not not not not not not not 1 and not not not not not not not 1;", 0);
        Due.faulty("law (((((((1)))))))+(((((((1+(1))))))));", 2, 29);
        Due.faulty("law (((((((1+1*(1))))))));", 2, 15);
        Due.faulty("law (((((((1 and not 1)))))));", 2, 17);
        Due.faulty("law not not not not not not not 1+(1);", 2, 34);
        // behind a not the one alone is within it
        Due.sound("law not not not not not not not 1 and (1);", 0);
        Due.sound("law not not not not not not not 1 or not 1;", 0);
        // too deep, and a unit too many at the same place
        Due.faulty("law 1" + "+1".repeat(22) + "+(((((((1", 2, 4 + 46 + 7);
    }

    private static void grammar() {
        Due.by("one = not one | sum [(< | > | =) sum]. sum = term {(+ | -) term}. term = unit {(* | / | %) unit}. "
                + "unit = N | taken | left | took | gave | alike | hour | skill | ( e ).");
        Due.sound("law not not 1<2 and not 3+4-5>6*7/8%9 or taken=left and took or (gave)*(alike or hour)-skill;", 0);
        Due.faulty("law 1=1=1;", 2, 7);
        Due.faulty("law 1<1>1;", 2, 7);
        Due.sound("law (1<1)>1;", 0);
        Due.faulty("law 1+not 1;", 2, 6);
        Due.sound("law 1+(not 1);", 0);
        Due.faulty("law 1<not 1;", 2, 6);
        Due.faulty("law +1;", 2, 4);
        Due.faulty("law 1 and or 1;", 2, 10);
        Due.faulty("law 1 not 1;", 2, 6);
        Due.faulty("law 1(1);", 2, 5);
        Due.faulty("law (1)1;", 2, 7);
        Due.faulty("law (1;", 2, 6);
        Due.faulty("law 1);", 2, 5);
        Due.faulty("law ((1);", 2, 8);
        Due.faulty("law ();", 2, 5);
        Due.faulty("law 1<;", 2, 6);
        Due.faulty("law 1 and;", 2, 9);
        Due.faulty("law 1 or;", 2, 8);
        Due.faulty("law not;", 2, 7);
        Due.faulty("law x;", 2, 4);
        Due.faulty("law worth;", 2, 4);
        Due.faulty("law and 1;", 2, 4);
    }

    /** u (5) is TAKEN for v (7) of another KIND, in HOUR 0, by one of skill 9. */
    private static void comes(String law, int lawful) {
        BetterThieves x = Due.city("kind a;kind b;thing u of a weight 1 worth 5;thing v of b weight 1 worth 7;"
                + "house h lock 1 has u;thief p sack 99 skill 9 has v;law " + law + ";");
        Due.is("law " + law, x.may(0, 0, 1, 2, 2), lawful);
    }

    private static void notZero() {
        Due.by("It is LAWFUL, if what comes of law is not 0");
        comes("0", 0);
        comes("0000", 0);
        comes("1", 1);
        comes("9999", 1);
        comes("0-1", 1);
        comes("taken-taken", 0);
        comes("taken-left", 1);
    }

    private static void givens() {
        Due.by("(taken: what is TAKEN is WORTH to the HOUSE, together; left likewise; took, gave: how many THINGS;");
        String city = "night 9;" + Texts.worths(1, 2, 4, 8, 16, 32) + "house ha lock 0 has a has b has c;"
                + "house hb lock 0;thief pa sack 99 skill 0 has d has e has f;thief pb sack 99 skill 9;"
                + "dear a to ha 50;dear a to pa 99;dear a to hb 98;dear d to ha 70;dear d to pa 97;law ";
        // one .. three TAKEN, none .. three LEFT
        int[][] deeds = {{1, 0, 50, 0, 1, 0}, {2, 16, 2, 16, 1, 1}, {3, 48, 52, 48, 2, 2}, {7, 56, 56, 118, 3, 3},
            {4, 56, 4, 118, 1, 3}, {7, 8, 56, 70, 3, 1}, {6, 0, 6, 0, 2, 0}};
        for (int[] d : deeds) {
            BetterThieves x = Due.city(city + "taken=" + d[2] + " and left=" + d[3] + " and took=" + d[4]
                    + " and gave=" + d[5] + ";");
            Due.is("taken " + d[0] + ", left " + d[1], x.may(0, 0, d[0], d[1], 2), 1);
        }
        // the first THING and the last, TAKEN and LEFT
        String ends = Texts.worths(1, 2, 3, 4, 5, 6, 7, 8, 9, 10) + "house ha lock 0" + Texts.has(1, 8)
                + ";thief pa sack 99 skill 0 has a has j;law ";
        BetterThieves first = Due.city(ends + "left=1 and gave=1 and alike=1;");
        Due.is("THING 0 LEFT", first.may(0, 0, 2, 1, 2), 1);
        BetterThieves last = Due.city(ends + "left=11 and taken=2 and gave=2 and alike=2;");
        Due.is("THINGS 0 and 9 LEFT", last.may(0, 0, 2, 513, 2), 1);
        BetterThieves taken = Due.city(ends + "taken=11 and took=2;");
        taken.gift(0, 0, false);
        taken.gift(9, 0, false);
        Due.is("THINGS 0 and 9 TAKEN", taken.may(0, 0, 513, 0, 2), 1);
        Due.by("hour; skill of the THIEF;");
        for (int hour = 0; hour < 9; hour++) {
            BetterThieves x = Due.city(city + "hour=" + hour + ";");
            for (int h = 0; h < 10; h++) {
                Due.is("hour " + h % 9, x.may(0, 0, 1, 0, 2), h % 9 == hour ? 1 : 0);
                x.waits();
            }
        }
        BetterThieves none = Due.city(city + "skill=0;");
        Due.is("no skill", none.may(0, 0, 1, 0, 2), 1);
        Due.is("skill 9", none.may(1, 0, 1, 0, 2), 0);
        BetterThieves most = Due.city(city + "skill=9;");
        Due.is("no skill", most.may(0, 0, 1, 0, 2), 0);
        Due.is("skill 9", most.may(1, 0, 1, 0, 2), 1);
    }

    private static void alike() {
        Due.by("alike: how many LEFT are of a KIND of which something is TAKEN;");
        String city = Texts.kinds(6) + "thing a of ka weight 1 worth 1;thing b of ka weight 1 worth 1;"
                + "thing c of kf weight 1 worth 1;thing d of ka weight 1 worth 1;thing e of kf weight 1 worth 1;"
                + "thing f of kf weight 1 worth 1;thing g of kb weight 1 worth 1;thing h of kf weight 1 worth 1;"
                + "house ha lock 0 has a has b has c;thief pa sack 99 skill 0 has d has e has f has g has h;law alike=";
        int d = 8;
        int e = 16;
        int f = 32;
        int g = 64;
        int h = 128;
        int[][] deeds = {{1, 0, 0}, {1, g, 0}, {1, d, 1}, {3, d, 1}, {3, d | e, 1}, {7, d | e, 2}, {4, e | f | h, 3},
            {7, d | e | f, 3}, {7, d | f | g, 2}, {3, e | f | h, 0}, {4, d | g, 0}, {6, e | f, 2}};
        for (int[] deed : deeds) {
            for (int n = 0; n <= 3; n++) {
                Due.is("alike of " + deed[0] + ", " + deed[1] + " is " + n,
                        Due.city(city + n + ";").may(0, 0, deed[0], deed[1], 2), n == deed[2] ? 1 : 0);
            }
        }
        // as SWAPS, UNBETTERED and REPORTS count it
        BetterThieves two = Due.city(city + "2;");
        Due.is("SWAPS with two alike", two.swaps(0), 3);
        Due.is("UNBETTERED", two.unbettered(0), 3);
        BetterThieves one = Due.city(city + "1;");
        one.report(0, 0, 3, 0, true);
        Due.is("a REPORT of two alike", one.span(0, 0, 0, 0), 100);
        one.report(0, 0, 4, 0, true);
        Due.is("a REPORT of two that are not", one.span(0, 0, 0, 0), 0);
    }

    private static void wrapping() {
        Due.by("ints, wrapping;");
        comes("2048*1024*1024<0", 1);
        comes("2048*1024*1024-1>0", 1);
        comes("2048*1024*1024-1+1<0", 1);
        comes("2048*1024*1024*2=0", 1);
        comes("2048*1024*1024*2", 0);
        comes("0-2048*1024*1024<0", 1);
        comes("0-2048*1024*1024=2048*1024*1024", 1);
        comes("4096*1024*1024", 0);
        comes("4096*1024*1024+1", 1);
        // 999,700,029,999 wraps to -1,027,349,969
        comes("9999*9999*9999%1000=0-969", 1);
        comes("9999*9999*9999/1000/1000=0-1027", 1);
        comes("2048*1024*1024<2048*1024*1024-1", 1);
    }

    private static void dividing() {
        Due.by("/ cut, % its rest, both by 0: 0;");
        comes("7/2=3 and 7%2=1", 1);
        comes("(0-7)/2=0-3 and (0-7)%2=0-1", 1);
        comes("7/(0-2)=0-3 and 7%(0-2)=1", 1);
        comes("(0-7)/(0-2)=3 and (0-7)%(0-2)=0-1", 1);
        comes("1/2=0 and 1%2=1", 1);
        comes("0/7=0 and 0%7=0", 1);
        comes("7/7=1 and 7%7=0", 1);
        comes("7/0", 0);
        comes("7%0", 0);
        comes("0/0", 0);
        comes("0%0", 0);
        comes("not 7/0", 1);
        comes("not 7%0", 1);
        comes("(0-7)/0=0 and (0-7)%0=0", 1);
        comes("7/(taken-5)+1=1", 1);
        comes("7%(left-7)+1=1", 1);
        // the least int by -1 wraps
        comes("2048*1024*1024/(0-1)<0", 1);
        comes("2048*1024*1024%(0-1)=0", 1);
    }

    private static void relations() {
        Due.by("relations, and, or, not are 1 or 0, of what is not 0);");
        int[][] pairs = {{1, 2}, {2, 2}, {2, 1}, {0, 0}, {0, 1}};
        for (int[] p : pairs) {
            comes("(" + p[0] + "<" + p[1] + ")=" + (p[0] < p[1] ? 1 : 0), 1);
            comes("(" + p[0] + ">" + p[1] + ")=" + (p[0] > p[1] ? 1 : 0), 1);
            comes("(" + p[0] + "=" + p[1] + ")=" + (p[0] == p[1] ? 1 : 0), 1);
            boolean a = p[0] != 0;
            boolean b = p[1] != 0;
            comes("(" + p[0] + " and " + p[1] + ")=" + (a && b ? 1 : 0), 1);
            comes("(" + p[0] + " or " + p[1] + ")=" + (a || b ? 1 : 0), 1);
        }
        comes("(0-1 and 5)=1", 1);
        comes("(0-1 or 0)=1", 1);
        comes("(not 0-1)=0", 1);
        comes("(not 0)=1", 1);
        comes("(not 5)=0", 1);
        comes("(not not 5)=1", 1);
        comes("0-1<1", 1);
        comes("0-1>1", 0);
    }

    private static void order() {
        comes("1+2*3=7", 1);
        comes("8/4/2=1", 1);
        comes("9-4-3=2", 1);
        comes("9-4+3=8", 1);
        comes("8/4*2=4", 1);
        comes("9%5*3=12", 1);
        comes("2*9%5=3", 1);
        Due.by("e = both {or both}. both = one {and one}.");
        comes("1 or 1 and 0", 1);
        comes("0 and 1 or 1", 1);
        comes("(1 or 1) and 0", 0);
        comes("not 0 and 0", 0);
        comes("not (0 and 0)", 1);
        comes("not 1 or 1", 1);
        comes("not 1=2", 1);
        comes("not 2+1", 0);
    }

    private static void without() {
        Due.by("without law, if left is more than taken.");
        for (int left = 4; left <= 6; left++) {
            BetterThieves x = Due.city(Texts.worths(5, left) + "house h lock 1 has a;thief p sack 9 skill 1 has b;");
            Due.is("5 for " + left, x.may(0, 0, 1, 2, 2), left > 5 ? 1 : 0);
            Due.is("5 for none", x.may(0, 0, 1, 0, 2), 0);
        }
        BetterThieves zero = Due.city(Texts.worths(0, 0, 1) + "house h lock 1 has a;"
                + "thief p sack 9 skill 1 has b has c;");
        Due.is("0 for none", zero.may(0, 0, 1, 0, 2), 0);
        Due.is("0 for 0", zero.may(0, 0, 1, 2, 2), 0);
        Due.is("0 for 1", zero.may(0, 0, 1, 4, 2), 1);
        // nothing of a law told before is left in a shorter one
        BetterThieves again = new BetterThieves();
        String[] laws = {"law not not not 1;", "law 1;", "law 1;", "law 0-1-1-1;", "law 0+0+0*5;", "law 0;",
                "law not 1 or 0;", "", "law 1;"};
        int[] lawful = {0, 1, 1, 1, 0, 0, 0, 0, 1};
        for (int i = 0; i < laws.length; i++) {
            Due.feed(again, Texts.worths(5, 5) + "house h lock 1 has a;thief p sack 9 skill 1 has b;" + laws[i]);
            Due.is("city", again.city(), 2);
            Due.is(laws[i], again.may(0, 0, 1, 2, 2), lawful[i]);
        }
        // a law told before is none now
        BetterThieves x = Due.city("law 1;");
        Due.feed(x, Texts.worths(5, 5) + "house h lock 1 has a;thief p sack 9 skill 1 has b;");
        x.city();
        Due.is("5 for 5", x.may(0, 0, 1, 2, 2), 0);
    }
}
