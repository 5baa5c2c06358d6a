import java.io.IOException;
import java.lang.reflect.Constructor;
import java.lang.reflect.Field;
import java.lang.reflect.Method;
import java.lang.reflect.Modifier;
import java.nio.file.Files;
import java.nio.file.Path;
import java.util.Arrays;
import java.util.Set;
import java.util.TreeSet;
import java.util.regex.Matcher;
import java.util.regex.Pattern;

/** The face of the class, and the rules of LANGUAGE.md that can be seen in its source. */
public final class LanguageTest {
    private static final Check CHECK = new Check("LanguageTest");

    private static final String[] FACE = {
        "int row(int,int,int)", "int put(int,int,boolean)", "int drop(int)", "int move(int,int,boolean)",
        "int join(int,int)", "int split(int,int)", "int less(int,int)", "long label(int,boolean)",
        "int inner(int,boolean)", "int near(int,int)", "int index(int)", "int at(int,int)",
        "int between(int,int)", "int holds(int,int)", "int meet(int,int)", "int depth(int)",
        "int rowOf(int)", "int mark(int,int,int,int)", "int marked(int)", "int putAt(int)", "int undo()",
        "int about(int,int)", "int isOf(int,int)", "int count(int)"};

    private static final String[] FORBIDDEN_WORDS = {
        "throw", "throws", "try", "catch", "finally", "synchronized", "assert", "package", "float", "double",
        "hashCode", "toString", "Thread", "Object", "Exception", "Error", "Random", "currentTimeMillis",
        "nanoTime", "Iterator", "var", "yield", "protected", "native", "volatile", "transient"};

    private static String signature(Method m) {
        StringBuilder s = new StringBuilder(m.getReturnType().getSimpleName());
        s.append(' ').append(m.getName()).append('(');
        String comma = "";
        for (Class<?> p : m.getParameterTypes()) {
            s.append(comma).append(p.getSimpleName());
            comma = ",";
        }
        return s.append(')').toString();
    }

    private static void checkFace() {
        Set<String> want = new TreeSet<>(Arrays.asList(FACE));
        Set<String> got = new TreeSet<>();
        Set<String> publicNames = new TreeSet<>();
        for (Method m : LabelHall.class.getDeclaredMethods()) {
            if (!Modifier.isPrivate(m.getModifiers())) {
                got.add(signature(m));
                publicNames.add(m.getName());
                CHECK.yes(m + " is public and of the object",
                    Modifier.isPublic(m.getModifiers()) && !Modifier.isStatic(m.getModifiers()));
            }
        }
        CHECK.yes("the methods are " + got, got.equals(want));
        for (Method m : LabelHall.class.getDeclaredMethods()) {
            CHECK.yes("the name of " + m,
                !Modifier.isPrivate(m.getModifiers()) || !publicNames.contains(m.getName()));
        }
        int modifiers = LabelHall.class.getModifiers();
        CHECK.yes("public and final", Modifier.isPublic(modifiers) && Modifier.isFinal(modifiers));
        Constructor<?>[] made = LabelHall.class.getDeclaredConstructors();
        CHECK.yes("one public constructor without parameters", made.length == 1
            && Modifier.isPublic(made[0].getModifiers()) && made[0].getParameterCount() == 0);
        checkFields(LabelHall.class, Set.of("NONE", "BAD", "NO", "FULL"));
    }

    private static void checkFields(Class<?> type, Set<String> publicOnes) {
        int own = 0;
        for (Field f : type.getDeclaredFields()) {
            int m = f.getModifiers();
            own += Modifier.isStatic(m) ? 0 : 1;
            CHECK.yes(f + " is final if it is static", !Modifier.isStatic(m) || Modifier.isFinal(m));
            CHECK.yes(f + " is a constant of the face or private", publicOnes.contains(f.getName())
                ? Modifier.isPublic(m) && Modifier.isStatic(m) && f.getType() == int.class
                : Modifier.isPrivate(m));
        }
        CHECK.yes(type + " has at most 20 fields", own <= 20);
    }

    private static void checkClassesInside() {
        Class<?>[] inside = LabelHall.class.getDeclaredClasses();
        CHECK.yes("at most twelve classes", inside.length + 1 <= 12);
        for (Class<?> c : inside) {
            CHECK.yes(c + " is static and not public", Modifier.isStatic(c.getModifiers())
                && !Modifier.isPublic(c.getModifiers()) && !Modifier.isProtected(c.getModifiers()));
            CHECK.yes(c + " has at most 20 fields", c.getDeclaredFields().length <= 20);
            for (Method m : c.getDeclaredMethods()) {
                CHECK.yes(m + " takes at most seven", m.getParameterCount() <= 7);
            }
        }
    }

    private static String withoutComments(String source) {
        return source.replaceAll("(?s)/\\*.*?\\*/", "").replaceAll("//[^\n]*", "");
    }

    private static void checkWords(String code) {
        for (String word : FORBIDDEN_WORDS) {
            CHECK.yes("no " + word, !Pattern.compile("\\b" + word + "\\b").matcher(code).find());
        }
        CHECK.yes("no lambda", !code.contains("->"));
        CHECK.yes("no method reference", !code.contains("::"));
        CHECK.yes("no annotation", !code.contains("@"));
        CHECK.yes("no text is used", !code.contains("\""));
        Matcher imports = Pattern.compile("import\\s+([^;]+);").matcher(code);
        while (imports.find()) {
            CHECK.yes("import of " + imports.group(1), imports.group(1).equals("java.util.Arrays"));
        }
        Matcher calls = Pattern.compile("\\b(System|Arrays|Math|Integer|Long)\\.(\\w+)").matcher(code);
        Set<String> allowed = Set.of("System.arraycopy", "Arrays.fill", "Math.max", "Math.min", "Math.abs");
        while (calls.find()) {
            CHECK.yes("call of " + calls.group(), allowed.contains(calls.group()));
        }
        for (char c : code.toCharArray()) {
            if (c > 255) {
                CHECK.yes("characters up to 255", false);
            }
        }
    }

    private static void checkLengths(String code) {
        int start = 0;
        int depth = 0;
        String[] lines = code.split("\n");
        for (int i = 0; i < lines.length; i++) {
            boolean head = lines[i].matches("\\s+(?!(if|for|while|switch|else|\\}|return)\\b).*\\)\\s*\\{");
            if (head && !lines[i].matches(".*\\b(if|for|while|switch)\\s*\\(.*")) {
                start = i;
                depth = lines[i].indexOf(lines[i].trim());
            }
            if (lines[i].trim().equals("}") && lines[i].indexOf('}') == depth) {
                CHECK.yes("the method at line " + start + " is short", i - start <= 60);
            }
        }
    }

    public static void main(String[] args) throws IOException {
        String code = withoutComments(Files.readString(Path.of("src/main/java/LabelHall.java")));
        checkFace();
        checkClassesInside();
        checkWords(code);
        checkLengths(code);
        CHECK.end();
    }
}
