/** Parts of texts of CITIES; the first of a sort has the letter a in its NAME. */
final class Texts {
    private Texts() {
    }

    static char letter(int i) {
        return (char) ('a' + i);
    }

    static String kinds(int n) {
        StringBuilder b = new StringBuilder();
        for (int i = 0; i < n; i++) {
            b.append("kind k").append(letter(i)).append(";");
        }
        return b.toString();
    }

    static String thing(int i, int weight, int worth) {
        return "thing " + letter(i) + " of ka weight " + weight + " worth " + worth + ";";
    }

    /** THINGS of KIND 0, of weight 1 and these worths. */
    static String worths(int... worths) {
        StringBuilder b = new StringBuilder("kind ka;");
        for (int i = 0; i < worths.length; i++) {
            b.append(thing(i, 1, worths[i]));
        }
        return b.toString();
    }

    /** THINGS of KIND 0, of worth 1 and these weights. */
    static String weights(int... weights) {
        StringBuilder b = new StringBuilder("kind ka;");
        for (int i = 0; i < weights.length; i++) {
            b.append(thing(i, weights[i], 1));
        }
        return b.toString();
    }

    static String things(int n) {
        StringBuilder b = new StringBuilder("kind ka;");
        for (int i = 0; i < n; i++) {
            b.append(thing(i, 1, 1));
        }
        return b.toString();
    }

    static String houses(int n) {
        StringBuilder b = new StringBuilder();
        for (int i = 0; i < n; i++) {
            b.append("house h").append(letter(i)).append(" lock 0;");
        }
        return b.toString();
    }

    static String thieves(int n) {
        StringBuilder b = new StringBuilder();
        for (int i = 0; i < n; i++) {
            b.append("thief p").append(letter(i)).append(" sack 999 skill 0;");
        }
        return b.toString();
    }

    /** That a HOLDER has the THINGS first .. last. */
    static String has(int first, int last) {
        StringBuilder b = new StringBuilder();
        for (int i = first; i <= last; i++) {
            b.append(" has ").append(letter(i));
        }
        return b.toString();
    }

    static String watches(int n) {
        StringBuilder b = new StringBuilder();
        for (int i = 0; i < n; i++) {
            b.append(" watch ").append(i);
        }
        return b.toString();
    }

    /** As many lines dear as are asked for, up to 40. */
    static String dears(int n) {
        String[] to = {"ha", "hb", "pa", "pb"};
        StringBuilder b = new StringBuilder();
        for (int i = 0; i < n; i++) {
            b.append("dear ").append(letter(i % 10)).append(" to ").append(to[i / 10]).append(" ").append(i).append(";");
        }
        return b.toString();
    }

    /** The most of all: 9 HOURS, 6 KINDS, 10 THINGS, 5 HOUSES with 9 watches, 4 THIEVES, 20 dear, 30 units. */
    static String full() {
        StringBuilder b = new StringBuilder("night 9;").append(kinds(6));
        for (int i = 0; i < 10; i++) {
            b.append("thing ").append(letter(i)).append(" of kf weight 99 worth 99;");
        }
        for (int i = 0; i < 5; i++) {
            b.append("house h").append(letter(i)).append(" lock 9").append(watches(9)).append(has(i, i)).append(";");
        }
        for (int i = 0; i < 4; i++) {
            b.append("thief p").append(letter(i)).append(" sack 999 skill 9").append(has(5 + i, 5 + i)).append(";");
        }
        return b.append(dears(20)).append("law 9999").append("+1".repeat(29)).append(";").toString();
    }
}
