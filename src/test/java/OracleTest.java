import java.util.ArrayList;
import java.util.List;
import java.util.Random;

/** Runs of calls by chance (always the same ones), answered by the class and by Oracle. */
public final class OracleTest {
    private static final String[] UNITS = {"taken", "left", "took", "gave", "alike", "hour", "skill"};
    private static final String[] SIGNS = {"+", "-", "*", "/", "%"};
    private static final String[] RELATIONS = {"<", ">", "="};
    private static final String[] SCRAPS = {";", "(", ")", "kind", "thing", "of", "law", "not", "night 3;", "has",
        "watch", "dear", "x", "a", "h", "p", "7", "100", "12345", "abcdefghi", "ta", "hb", "pa", "6", "9", "10", "3x", "#", "\n", "and", "or", "<",
        "house q lock 1;", "thief q sack 9 skill 1;", "to", "skill", "+", "lock", "weight", "worth", "1000"};

    private static final int[] FAR = {Integer.MIN_VALUE, Integer.MAX_VALUE, -2, 10, 31, 32, 33, 100, 1 << 20};

    private final Random chance;
    private final BetterThieves x = new BetterThieves();
    private final Oracle y = new Oracle();
    private final String run;
    private int calls = 0;

    private OracleTest(long seed) {
        chance = new Random(seed);
        run = "run " + seed;
    }

    public static void main(String[] args) {
        long from = args.length > 0 ? Long.parseLong(args[0]) : 1;
        long runs = args.length > 1 ? Long.parseLong(args[1]) : 250;
        for (long seed = from; seed < from + runs && Due.wrongs() < 20; seed++) {
            new OracleTest(seed).go();
        }
        Due.finish();
    }

    private int below(int n) {
        return chance.nextInt(n);
    }

    private boolean often(int percent) {
        return below(100) < percent;
    }

    private String formula(int depth) {
        StringBuilder b = new StringBuilder();
        int parts = often(30) ? 2 : 1;
        for (int i = 0; i < parts; i++) {
            if (i > 0) {
                b.append(often(50) ? " or " : " and ");
            }
            if (often(15)) {
                b.append("not ");
            }
            b.append(total(depth));
            if (often(75)) {
                b.append(RELATIONS[below(3)]).append(total(depth));
            }
        }
        return b.toString();
    }

    private String total(int depth) {
        StringBuilder b = new StringBuilder(unit(depth));
        for (int i = 0; i < 3 && often(30); i++) {
            b.append(SIGNS[below(5)]).append(unit(depth));
        }
        return b.toString();
    }

    private String unit(int depth) {
        if (depth < 4 && often(12)) {
            return "(" + formula(depth + 1) + ")";
        }
        return often(25) ? String.valueOf(below(often(20) ? 10000 : 12)) : UNITS[below(often(60) ? 2 : 7)];
    }

    private String cityText() {
        StringBuilder b = new StringBuilder();
        int hours = 6;
        if (often(70)) {
            hours = 1 + below(9);
            b.append("night ").append(hours).append(";");
        }
        int kinds = 1 + below(3);
        for (int i = 0; i < kinds; i++) {
            b.append("kind ").append((char) ('a' + i)).append(";");
        }
        int things = often(50) ? 1 + below(10) : 5 + below(4);
        int worths = often(50) ? 12 : 100;
        for (int i = 0; i < things; i++) {
            b.append("thing t").append((char) ('a' + i)).append(" of ").append((char) ('a' + below(kinds)));
            b.append(" weight ").append(below(10)).append(" worth ").append(below(worths)).append(";");
        }
        List<Integer> free = new ArrayList<>();
        for (int i = 0; i < things; i++) {
            free.add(i);
        }
        int houses = 1 + below(5);
        int thieves = 1 + below(4);
        for (int i = 0; i < houses; i++) {
            b.append("house h").append((char) ('a' + i)).append(" lock ").append(below(10));
            for (int hour = 0; hour < hours; hour++) {
                b.append(often(20) ? " watch " + hour : "");
            }
            b.append(stock(free, 40)).append(";");
        }
        for (int i = 0; i < thieves; i++) {
            b.append("thief p").append((char) ('a' + i)).append(" sack ").append(often(60) ? 10 + below(40) : 999);
            b.append(" skill ").append(below(10)).append(stock(free, 70)).append(";");
        }
        for (int i = 0; i < things && often(70); i++) {
            b.append("dear t").append((char) ('a' + i)).append(" to ");
            b.append(often(30) ? "h" + (char) ('a' + below(houses)) : "p" + (char) ('a' + below(thieves)));
            b.append(" ").append(below(worths)).append(";");
        }
        if (often(70)) {
            b.append("law ").append(often(20) ? "1" : formula(0)).append(";");
        }
        return b.toString();
    }

    private String stock(List<Integer> free, int percent) {
        StringBuilder b = new StringBuilder();
        for (int i = 0; i < 10 && !free.isEmpty() && often(percent); i++) {
            int thing = free.remove(below(free.size()));
            b.append(" has t").append((char) ('a' + thing));
        }
        return b.toString();
    }

    private String spoilt(StringBuilder b) {
        int at = below(b.length());
        switch (below(6)) {
            case 0 -> b.insert(at, SCRAPS[below(SCRAPS.length)]);
            case 1 -> b.delete(at, Math.min(b.length(), at + 1 + below(6)));
            case 2 -> b.setLength(at);
            default -> respelt(b);
        }
        return b.toString();
    }

    /** A TOKEN in place of another, or ahead of it, from the text itself or from the scraps. */
    private void respelt(StringBuilder b) {
        String[] tokens = b.toString().split("(?=[; ()<>=+*/%-])|(?<=[; ()<>=+*/%-])");
        int at = below(tokens.length);
        String other = often(50) ? SCRAPS[below(SCRAPS.length)] : tokens[below(tokens.length)];
        tokens[at] = often(70) ? other : other + " " + tokens[at];
        b.setLength(0);
        for (String token : tokens) {
            b.append(token);
        }
    }

    private void due(String call, int got, int want) {
        Due.is(run + ", call " + calls + ": " + call, got, want);
        calls++;
    }

    private void due(String call, boolean got, boolean want) {
        due(call, got ? 1 : 0, want ? 1 : 0);
    }

    private void tell(String text) {
        for (int i = 0; i < text.length(); i += 20) {
            int[] f = new int[5];
            for (int j = 0; j < 20; j++) {
                f[j / 4] = f[j / 4] << 8 | (i + j < text.length() ? text.charAt(i + j) & 255 : 0);
            }
            due("feed", x.feed(f[0], f[1], f[2], f[3], f[4]), y.feed(f[0], f[1], f[2], f[3], f[4]));
        }
        due("end", x.end(text.length()), y.end(text.length()));
        due("city of " + text, x.city(), y.city());
        due("fault(0) of " + text, x.fault(0), y.fault(0));
        due("fault(1) of " + text, x.fault(1), y.fault(1));
    }

    private void go() {
        for (int i = 0; i < 3; i++) {
            tell(spoilt(new StringBuilder(cityText())));
        }
        tell(cityText());
        while (calls < 480 && Due.wrongs() < 20) {
            call();
        }
        for (int i = 0; i < 16; i++) {
            due("about(" + i + ")", x.about(i), y.about(i));
        }
    }

    /** A number of something of which there are n, now and then one too far. */
    private int some(int n) {
        if (often(95)) {
            return below(Math.max(1, n));
        }
        return often(70) ? below(n + 3) - 1 : FAR[below(FAR.length)];
    }

    private int part(int set) {
        int part = 0;
        for (int i = 0; i < 10; i++) {
            part |= (set >> i & 1) != 0 && often(45) ? 1 << i : 0;
        }
        return often(96) ? part : part ^ 1 << below(12);
    }

    private void call() {
        int thing = some(y.about(0));
        int house = some(y.about(1));
        int thief = some(y.about(2));
        boolean b = often(50);
        int holder = b ? thief : house;
        switch (below(20)) {
            case 0 -> holdings(thing, holder, b);
            case 1 -> due("thief", x.thief(thief, holder), y.thief(thief, holder));
            case 2 -> {
                int n = below(8);
                due("minutes", x.minutes(thief, house, n), y.minutes(thief, house, n));
            }
            case 3, 4, 5, 6 -> theft(thief, house);
            case 7 -> due("waits", x.waits(), y.waits());
            case 8 -> due("gift", x.gift(thing, holder, b), y.gift(thing, holder, b));
            case 9 -> {
                if (often(70)) {
                    due("undo", x.undo(), y.undo());
                } else {
                    due("redo", x.redo(), y.redo());
                }
            }
            case 10 -> due("swaps", x.swaps(thief), y.swaps(thief));
            case 11 -> laid("best", x.best(thief), y.best(thief));
            case 12 -> {
                if (often(25)) {
                    laid("tour", x.tour(thief, thing), y.tour(thief, thing));
                }
            }
            case 13 -> rounds(thing, holder, b);
            case 14 -> {
                due("unbettered", x.unbettered(house), y.unbettered(house));
                laid("loopholes", x.loopholes(), y.loopholes());
            }
            case 15 -> boxes();
            case 16, 17 -> reports(house, thing);
            case 18 -> {
                int what = below(18) - 1;
                due("about", x.about(what), y.about(what));
            }
            default -> {
                if (often(10)) {
                    int n = 1 + below(4);
                    int what = below(3);
                    due("lie", x.lie(house, n, what), y.lie(house, n, what));
                }
            }
        }
    }

    private void laid(String call, int got, int want) {
        due(call, got, want);
        due(call + ", how many lie there", x.about(15), y.about(15));
        for (int i = 0; i < y.about(15); i++) {
            due(call + ", lies(" + i + ")", x.lies(i), y.lies(i));
        }
    }

    private void holdings(int thing, int holder, boolean b) {
        int what = below(7) - 1;
        due("thing", x.thing(thing, what), y.thing(thing, what));
        due("worth", x.worth(thing, holder, b), y.worth(thing, holder, b));
        due("has", x.has(holder, b), y.has(holder, b));
        due("sum", x.sum(holder, b), y.sum(holder, b));
    }

    private void theft(int thief, int house) {
        int taken = part(y.has(house, false) & 1023);
        int left = part(y.has(thief, true) & 1023);
        int what = below(4);
        due("may", x.may(thief, house, taken, left, what), y.may(thief, house, taken, left, what));
        if (often(60)) {
            due("theft", x.theft(thief, house, taken, left), y.theft(thief, house, taken, left));
        }
        if (often(10)) {
            swapAndAsk(thief);
        }
    }

    private void swapAndAsk(int thief) {
        int box = below(3);
        laid("best", x.best(thief), y.best(thief));
        due("image", x.image(box), y.image(box));
        int house = y.lies(0);
        int taken = 1 << y.lies(1);
        int left = y.lies(2);
        due("theft", x.theft(thief, house, taken, left), y.theft(thief, house, taken, left));
        laid("who", x.who(box), y.who(box));
    }

    private void rounds(int thing, int holder, boolean b) {
        int n = often(80) ? below(8) : below(64) - 1;
        due("drift", x.drift(thing, n), y.drift(thing, n));
        due("sums", x.sums(holder, b, n), y.sums(holder, b, n));
        if (often(40)) {
            due("rests", x.rests(), y.rests());
        }
    }

    private void boxes() {
        int box = below(5) - 1;
        int n = below(3);
        if (n == 0) {
            due("image", x.image(box), y.image(box));
        } else if (n == 1) {
            laid("who", x.who(box), y.who(box));
        } else if (often(30)) {
            due("back", x.back(box), y.back(box));
        }
    }

    private void reports(int house, int thing) {
        int other = some(y.about(0));
        int hour = some(y.about(6));
        int k = below(Math.max(1, y.about(12) + 2));
        switch (below(6)) {
            case 0, 1 -> {
                boolean lawful = y.lawfulAsTold(house, thing, other, hour) ^ often(20);
                due("report", x.report(house, thing, other, hour, lawful),
                        y.report(house, thing, other, hour, lawful));
            }
            case 2 -> {
                int n = some(y.about(11));
                if (often(40)) {
                    due("untell", x.untell(n), y.untell(n));
                }
            }
            case 3 -> {
                int by = often(90) ? below(3) : below(1100) - 20;
                due("later", x.later(by), y.later(by));
            }
            default -> {
                int what = below(4);
                due("span", x.span(house, thing, what, k), y.span(house, thing, what, k));
                due("ask", x.ask(house, thing, what, k), y.ask(house, thing, what, k));
            }
        }
    }
}
