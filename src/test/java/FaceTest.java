import java.lang.reflect.Constructor;
import java.lang.reflect.Field;
import java.lang.reflect.Method;
import java.lang.reflect.Modifier;
import java.nio.file.Files;
import java.nio.file.Path;
import java.util.Arrays;
import java.util.Set;
import java.util.TreeSet;
import java.util.regex.Matcher;
import java.util.regex.Pattern;

/** The face is the document's and no more, and the source keeps to what LANGUAGE.md leaves. */
public final class FaceTest {
    private static final String FACE = "feed(int,int,int,int,int)int end(int)int city()int fault(int)int "
            + "thing(int,int)int worth(int,int,boolean)int has(int,boolean)int sum(int,boolean)int "
            + "thief(int,int)int minutes(int,int,int)int may(int,int,int,int,int)int theft(int,int,int,int)int "
            + "waits()int gift(int,int,boolean)boolean undo()boolean redo()boolean swaps(int)int best(int)int "
            + "tour(int,int)int drift(int,int)int sums(int,boolean,int)int rests()int lie(int,int,int)int "
            + "unbettered(int)int loopholes()int who(int)int lies(int)int report(int,int,int,int,boolean)int "
            + "untell(int)boolean later(int)int span(int,int,int,int)int ask(int,int,int,int)int image(int)int "
            + "back(int)int about(int)int";

    private FaceTest() {
    }

    public static void main(String[] args) throws Exception {
        face();
        nested();
        source();
        Due.finish();
    }

    private static void face() {
        Set<String> want = new TreeSet<>(Arrays.asList(FACE.split(" ")));
        Set<String> got = new TreeSet<>();
        for (Method m : BetterThieves.class.getDeclaredMethods()) {
            if (!Modifier.isPrivate(m.getModifiers())) {
                StringBuilder b = new StringBuilder(m.getName()).append("(");
                for (Class<?> c : m.getParameterTypes()) {
                    b.append(b.charAt(b.length() - 1) == '(' ? "" : ",").append(c.getName());
                }
                got.add(b.append(")").append(m.getReturnType().getName()).toString());
                Due.is(m + " is public", Modifier.isPublic(m.getModifiers()), true);
            }
        }
        Due.is("face " + got, got.equals(want), true);
        Due.is("class is public and final", BetterThieves.class.getModifiers(), Modifier.PUBLIC | Modifier.FINAL);
        Constructor<?>[] made = BetterThieves.class.getDeclaredConstructors();
        Due.is("constructors", made.length, 1);
        Due.is("it is public", Modifier.isPublic(made[0].getModifiers()), true);
        for (Field f : BetterThieves.class.getDeclaredFields()) {
            boolean shown = f.getName().equals("NONE") || f.getName().equals("GAP");
            Due.is(f + " is private", Modifier.isPrivate(f.getModifiers()), !shown);
            if (Modifier.isStatic(f.getModifiers())) {
                Due.is(f + " is final", Modifier.isFinal(f.getModifiers()), true);
            }
        }
    }

    private static void nested() {
        Set<String> names = new TreeSet<>();
        for (String call : FACE.split(" ")) {
            names.add(call.substring(0, call.indexOf('(')));
        }
        Due.is("classes", BetterThieves.class.getDeclaredClasses().length <= 11, true);
        for (Class<?> c : BetterThieves.class.getDeclaredClasses()) {
            Due.is(c + " is static", Modifier.isStatic(c.getModifiers()), true);
            Due.is(c + " is not shown", Modifier.isPublic(c.getModifiers()), false);
            Due.is(c + " has few fields", Arrays.stream(c.getDeclaredFields())
                    .filter(f -> !Modifier.isStatic(f.getModifiers())).count() <= 20, true);
            for (Method m : c.getDeclaredMethods()) {
                Due.is(m + " bears a name of the face", names.contains(m.getName()), false);
                Due.is(m + " has few parameters", m.getParameterCount() <= 7, true);
            }
        }
        for (Method m : BetterThieves.class.getDeclaredMethods()) {
            if (Modifier.isPrivate(m.getModifiers())) {
                Due.is(m + " bears a name of the face", names.contains(m.getName()), false);
            }
        }
    }

    private static void source() throws Exception {
        String text = Files.readString(Path.of("src/main/java/BetterThieves.java"));
        String code = text.replaceAll("(?s)/\\*.*?\\*/", "").replaceAll("//[^\n]*", "");
        Matcher m = Pattern.compile("\\b(throws?|try|catch|synchronized|assert|package|hashCode|lambda|double|float"
                + "|Object|Random|Thread|Exact)\\b|->|::|\\w+Exact\\b").matcher(code);
        while (m.find()) {
            Due.is("the source has " + m.group(), 1, 0);
        }
        m = Pattern.compile("import ([\\w.]+);").matcher(code);
        while (m.find()) {
            Due.is("import of " + m.group(1), m.group(1).equals("java.util.Arrays"), true);
        }
        Due.is("signs above 127", text.chars().allMatch(c -> c < 128), true);
    }
}
