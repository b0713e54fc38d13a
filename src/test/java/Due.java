import java.io.IOException;
import java.nio.charset.StandardCharsets;
import java.nio.file.Files;
import java.nio.file.Path;

/** What the tests share: they count wrong answers, and feed texts. */
final class Due {
    private static final Path DOCUMENT = Path.of("../shared/DOC.md");

    private static int wrong = 0;
    private static int asked = 0;
    private static String sentence = "";
    private static String document = null;

    private Due() {
    }

    static void is(String call, long got, long want) {
        asked++;
        if (got != want) {
            wrong++;
            if (wrong <= 40) {
                System.out.println(sentence + call + " answered " + got + ", due is " + want);
            }
        }
    }

    static void is(String call, boolean got, boolean want) {
        is(call, got ? 1 : 0, want ? 1 : 0);
    }

    /** What is due from here on is due by these words of the document. */
    static void by(String words) {
        sentence = "";
        is("the document says: " + words, document().contains(words), true);
        sentence = "\"" + words + "\": ";
    }

    private static String document() {
        if (document == null) {
            try {
                document = Files.readString(DOCUMENT).replaceAll("\\s+", " ");
            } catch (IOException e) {
                throw new IllegalStateException("no document at " + DOCUMENT, e);
            }
        }
        return document;
    }

    static int wrongs() {
        return wrong;
    }

    static void finish() {
        System.out.println(wrong == 0 ? asked + " answers are as due" : wrong + " answers are not as due");
        if (wrong != 0) {
            System.exit(1);
        }
    }

    /** Puts a text on an empty TAPE. */
    static void feed(BetterThieves x, String text) {
        byte[] bytes = text.getBytes(StandardCharsets.ISO_8859_1);
        for (int i = 0; i < bytes.length; i += 20) {
            int[] five = new int[5];
            for (int j = 0; j < 20; j++) {
                int next = i + j < bytes.length ? bytes[i + j] & 255 : 0;
                five[j / 4] = five[j / 4] << 8 | next;
            }
            x.feed(five[0], five[1], five[2], five[3], five[4]);
        }
        x.end(bytes.length);
    }

    static BetterThieves city(String text) {
        BetterThieves x = new BetterThieves();
        feed(x, text);
        int things = x.city();
        if (things < 0) {
            is("city() of " + text + ", FAULT " + x.fault(0) + " at " + x.fault(1), things, 0);
        }
        return x;
    }

    /** A text without a FAULT. */
    static void sound(String text, int things) {
        BetterThieves x = new BetterThieves();
        feed(x, text);
        is("city() of " + text, x.city(), things);
        is("fault(0) of " + text, x.fault(0), 0);
        is("fault(1) of " + text, x.fault(1), BetterThieves.NONE);
        is("about(13) of " + text, x.about(13), 0);
        is("about(0) of " + text, x.about(0), things);
    }

    static void faulty(String text, int fault, int place) {
        BetterThieves x = new BetterThieves();
        feed(x, text);
        is("city() of " + text, x.city(), BetterThieves.NONE);
        is("fault(0) of " + text, x.fault(0), fault);
        is("fault(1) of " + text, x.fault(1), place);
        is("fault(2) of " + text, x.fault(2), BetterThieves.NONE);
        is("fault(-1) of " + text, x.fault(-1), BetterThieves.NONE);
        is("about(13) of " + text, x.about(13), 0);
        is("about(0) of " + text, x.about(0), 0);
    }

    /** All that lies there, with GAP behind it. */
    static void lies(String call, BetterThieves x, int... want) {
        is(call + ": about(15)", x.about(15), want.length);
        for (int i = 0; i < want.length; i++) {
            is(call + ": lies(" + i + ")", x.lies(i), want[i]);
        }
        is(call + ": lies(" + want.length + ")", x.lies(want.length), BetterThieves.GAP);
        is(call + ": lies(-1)", x.lies(-1), BetterThieves.GAP);
    }
}
