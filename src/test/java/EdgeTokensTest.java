/** The edges that "Terms" names for the text itself and for its TOKENS, sentence by sentence. */
public final class EdgeTokensTest {
    private static final String SIGNS = ";()<>=+-*/%";
    private static final String[] OWN_WORDS = {"kind", "thing", "of", "weight", "worth", "house", "lock", "watch",
        "has", "thief", "sack", "skill", "dear", "to", "law", "night", "or", "and", "not", "taken", "left", "took",
        "gave", "alike", "hour"};

    private EdgeTokensTest() {
    }

    public static void main(String[] args) {
        length();
        everyByteAlone();
        everyByteBehindAName();
        everyByteBehindANumber();
        wordLength();
        numberLength();
        blanks();
        asLongAsCanBe();
        letterBehindANumber();
        ownWords();
        otherWords();
        Due.finish();
    }

    private static boolean isLetter(char c) {
        return c >= 'a' && c <= 'z';
    }

    private static boolean isDigit(char c) {
        return c >= '0' && c <= '9';
    }

    private static boolean isBlank(char c) {
        return c == 32 || c == 10;
    }

    private static boolean isSign(char c) {
        return SIGNS.indexOf(c) >= 0;
    }

    private static void length() {
        Due.by("A CITY is a text of at most 1,700 bytes (empty at first): city = {line}.");
        BetterThieves x = new BetterThieves();
        Due.is("a new TAPE is a CITY", x.city(), 0);
        Due.sound("", 0);
        String line = "kind a;";
        Due.sound(line, 0);
        Due.sound(" ".repeat(1700 - line.length()) + line, 0);
        Due.sound(line + "\n".repeat(1700 - line.length()), 0);
        Due.faulty(" ".repeat(1694) + "kind a", 2, 1700);
        Due.faulty(" ".repeat(1695) + "kind;", 2, 1699);
        Due.faulty(" ".repeat(1699) + "#", 1, 1699);
        Due.faulty("#" + " ".repeat(1699), 1, 0);
        Due.faulty(";".repeat(1700), 2, 0);
        Due.faulty("a".repeat(1700), 1, 0);
        Due.faulty("1".repeat(1700), 1, 0);
        Due.faulty("law " + "(".repeat(1696), 2, 11);
        Due.faulty("law" + " not".repeat(424), 2, 32);
        Due.faulty("law 1" + "+1".repeat(847), 2, 64);
        // as many TOKENS as there can be: the last one is the first FAULT
        Due.faulty("law 1" + " and 1".repeat(29) + ";;".repeat(1700 - 180), 2, 180);
    }

    private static void everyByteAlone() {
        Due.by("TOKENS: words (a .. z, 8 at most), N (1 to 4 digits), signs ; ( ) < > = + - * / %;"
                + " blanks (32, 10) part them or not");
        for (char c = 0; c < 256; c++) {
            if (isBlank(c)) {
                Due.sound(String.valueOf(c), 0);
            } else {
                Due.faulty(String.valueOf(c), isLetter(c) || isDigit(c) || isSign(c) ? 2 : 1, 0);
            }
        }
    }

    private static void everyByteBehindAName() {
        for (char c = 0; c < 256; c++) {
            String text = "kind a" + c + ";";
            if (isBlank(c) || isLetter(c)) {
                Due.sound(text, 0);
            } else if (c == ';') {
                Due.faulty(text, 2, 7);
            } else {
                Due.faulty(text, isDigit(c) || isSign(c) ? 2 : 1, 6);
            }
        }
    }

    private static void everyByteBehindANumber() {
        for (char c = 0; c < 256; c++) {
            String text = "law 1" + c + ";";
            if (isBlank(c) || isDigit(c)) {
                Due.sound(text, 0);
            } else if (isLetter(c)) {
                Due.faulty(text, 1, 4);
            } else if (c == '(' || c == ')') {
                Due.faulty(text, 2, 5);
            } else {
                Due.faulty(text, isSign(c) ? 2 : 1, isSign(c) ? 6 : 5);
            }
        }
    }

    private static void wordLength() {
        Due.by("words (a .. z, 8 at most)");
        for (int n = 1; n <= 8; n++) {
            Due.sound("kind " + "z".repeat(n) + ";", 0);
        }
        for (int n = 9; n <= 30; n++) {
            Due.faulty("kind " + "z".repeat(n) + ";", 1, 5);
        }
        for (int i = 0; i < 26; i++) {
            Due.sound("kind " + Texts.letter(i) + ";", 0);
        }
        Due.faulty("kindkinds a;", 1, 0);
        Due.faulty("kindkind a;", 2, 0);
        Due.faulty("kind a;thing abcdefghi of a", 1, 13);
        Due.faulty("kind a;thing x offfffffff a", 1, 15);
        Due.faulty("house abcdefghi lock 1;", 1, 6);
        Due.faulty("thief abcdefghi sack 1 skill 1;", 1, 6);
        Due.faulty("law abcdefghi;", 1, 4);
        // all eight letters count
        Due.sound("kind abcdefgh;kind abcdefgi;kind bbcdefgh;kind abcdefg;kind bcdefgh;", 0);
        Due.faulty("kind abcdefgh;kind abcdefgh;", 3, 19);
        Due.faulty("kind zzzzzzzz;kind zzzzzzzy;kind zzzzzzzz;", 3, 33);
    }

    private static void numberLength() {
        Due.by("N (1 to 4 digits)");
        for (String n : new String[] {"0", "9", "00", "99", "000", "999", "0000", "9999"}) {
            Due.sound("law " + n + ";", 0);
        }
        for (String n : new String[] {"00000", "00001", "10000", "99999", "000000", "1234567890123"}) {
            Due.faulty("law " + n + ";", 1, 4);
        }
        Due.is("0009 is 9", Due.city("night 0009;").about(6), 9);
        Due.faulty("night 00009;", 1, 6);
        Due.faulty("house h lock 00001;", 1, 13);
        Due.faulty("thief p sack 00999 skill 1;", 1, 13);
        Due.faulty("law 99999", 1, 4);
    }

    private static void blanks() {
        Due.by("blanks (32, 10) part them or not");
        String[] tokens = {"night", "3", ";", "kind", "a", ";", "thing", "x", "of", "a", "weight", "1", "worth", "2",
                ";",
            "house", "h", "lock", "1", "watch", "0", "has", "x", ";", "thief", "p", "sack", "9", "skill", "1", ";",
            "dear", "x", "to", "p", "3", ";", "law", "not", "(", "left", "+", "1", ")", "*", "2", "-", "taken", "/",
            "took", "%", "gave", "<", "alike", "and", "hour", ">", "3", "or", "skill", "=", "4", ";"};
        for (String blank : new String[] {" ", "\n", "  ", " \n", "\n \n"}) {
            Due.sound(blank + String.join(blank, tokens) + blank, 1);
        }
        Due.sound("night3;kind a;thing x of a weight1 worth2;house h lock1 watch0 has x;thief p sack9 skill1;"
                + "dear x to p3;law not(left+1)*2-taken/took%gave<alike and hour>3 or skill=4;", 1);
        // without one where it parts, there is another TOKEN
        Due.faulty("kinda;", 2, 0);
        Due.faulty("house h lock1watch0;", 1, 12);
        Due.sound("house h lock1 watch0;", 0);
    }

    private static void asLongAsCanBe() {
        Due.by("each is as long as can be");
        Due.sound("kind nota;kind andy;kind ofa;kind too;kind kindb;kind lawn;", 0);
        Due.faulty("lawtaken;", 2, 0);
        Due.faulty("law tookgave;", 2, 4);
        Due.faulty("law takenleft;", 1, 4);
        Due.faulty("law notleft;", 2, 4);
        Due.sound("law not left;", 0);
        Due.faulty("house h lock 12;", 4, 13);
        Due.faulty("house h lock 1 2;", 2, 15);
        Due.faulty("law 1 2;", 2, 6);
        Due.sound("law 12;", 0);
    }

    private static void letterBehindANumber() {
        Due.by("no letter directly behind an N");
        for (int n = 1; n <= 4; n++) {
            Due.faulty("law " + "1".repeat(n) + "or 1;", 1, 4);
            Due.faulty("law " + "1".repeat(n) + "x;", 1, 4);
            Due.sound("law " + "1".repeat(n) + " or 1;", 0);
            Due.sound("law " + "1".repeat(n) + "\nor 1;", 0);
        }
        Due.faulty("law 1z", 1, 4);
        Due.sound("law(1)or(2);", 0);
        // a digit directly behind a word is another TOKEN
        Due.sound("law not1 or2;", 0);
        Due.faulty("kind a1;", 2, 6);
    }

    private static void ownWords() {
        Due.by("Words that stand for themselves here are no NAMES.");
        String begin = "kind a;thing x of a weight 1 worth 1;house h lock 1;";
        for (String word : OWN_WORDS) {
            Due.faulty("kind " + word + ";", 2, 5);
            Due.faulty("kind a;thing " + word + " of a weight 1 worth 1;", 2, 13);
            Due.faulty("kind a;thing x of " + word + " weight 1 worth 1;", 2, 18);
            Due.faulty("house " + word + " lock 1;", 2, 6);
            Due.faulty("thief " + word + " sack 1 skill 1;", 2, 6);
            Due.faulty(begin + "thief p sack 1 skill 1 has " + word + ";", 2, begin.length() + 27);
            Due.faulty(begin + "dear " + word + " to h 1;", 2, begin.length() + 5);
            Due.faulty(begin + "dear x to " + word + " 1;", 2, begin.length() + 10);
            // with one letter more it is one
            Due.sound("kind " + word + "q;", 0);
            Due.sound("kind q" + word + ";", 0);
        }
    }

    /** What stands for a part of the text, not for itself. */
    private static void otherWords() {
        for (String word : new String[] {"line", "city", "e", "both", "one", "sum", "term", "unit", "n", "name",
                "things",
            "kin", "hous", "thie", "dea", "la", "nigh", "o", "weigh", "wort", "loc", "watc", "ha", "sac", "t", "an",
                    "no",
            "take", "lef", "too", "gav", "alik", "hou", "skil", "ind", "hing", "ouse", "hief", "jail", "stock"}) {
            Due.sound("kind " + word + ";", 0);
        }
    }
}
