import java.io.IOException;
import java.lang.reflect.Constructor;
import java.lang.reflect.Field;
import java.lang.reflect.Method;
import java.lang.reflect.Modifier;
import java.nio.file.Files;
import java.nio.file.Path;
import java.util.Arrays;
import java.util.Map;
import java.util.Set;
import java.util.TreeMap;
import java.util.TreeSet;
import java.util.regex.Matcher;
import java.util.regex.Pattern;

/** The face of the class, and the rules of LANGUAGE.md that can be seen in its source. */
public final class LanguageTest {
    private static final Check CHECK = new Check("LanguageTest");

    private static final String[] FACE = {
        "int row(int,int,int)", "int put(int,int,boolean)", "int drop(int)", "int move(int,int,boolean)",
        "int join(int,int)", "int split(int,int)", "int less(int,int)", "long label(int,boolean)",
        "int inner(int,boolean)", "int near(int,int)", "int index(int)", "int at(int,int)",
        "int between(int,int)", "int holds(int,int)", "int meet(int,int)", "int depth(int)",
        "int rowOf(int)", "int mark(int,int,int,int)", "int marked(int)", "int putAt(int)", "int undo()",
        "int about(int,int)", "int isOf(int,int)", "int count(int)"};

    private static final String[] FORBIDDEN_WORDS = {
        "throw", "throws", "try", "catch", "finally", "synchronized", "assert", "package", "float", "double",
        "hashCode", "toString", "Thread", "Object", "Exception", "Error", "Random", "currentTimeMillis",
        "nanoTime", "Iterator", "var", "yield", "protected", "native", "volatile", "transient"};

    private static String signature(Method m) {
        StringBuilder s = new StringBuilder(m.getReturnType().getSimpleName());
        s.append(' ').append(m.getName()).append('(');
        String comma = "";
        for (Class<?> p : m.getParameterTypes()) {
            s.append(comma).append(p.getSimpleName());
            comma = ",";
        }
        return s.append(')').toString();
    }

    private static void checkFace() {
        Set<String> want = new TreeSet<>(Arrays.asList(FACE));
        Set<String> got = new TreeSet<>();
        Set<String> publicNames = new TreeSet<>();
        for (Method m : LabelHall.class.getDeclaredMethods()) {
            if (!Modifier.isPrivate(m.getModifiers())) {
                got.add(signature(m));
                publicNames.add(m.getName());
                CHECK.yes(m + " is public and of the object",
                    Modifier.isPublic(m.getModifiers()) && !Modifier.isStatic(m.getModifiers()));
            }
        }
        CHECK.yes("the methods are " + got, got.equals(want));
        for (Method m : LabelHall.class.getDeclaredMethods()) {
            CHECK.yes("the name of " + m,
                !Modifier.isPrivate(m.getModifiers()) || !publicNames.contains(m.getName()));
        }
        int modifiers = LabelHall.class.getModifiers();
        CHECK.yes("public and final", Modifier.isPublic(modifiers) && Modifier.isFinal(modifiers));
        Constructor<?>[] made = LabelHall.class.getDeclaredConstructors();
        CHECK.yes("one public constructor without parameters", made.length == 1
            && Modifier.isPublic(made[0].getModifiers()) && made[0].getParameterCount() == 0);
        checkFields(LabelHall.class, Set.of("NONE", "BAD", "NO", "FULL"));
    }

    private static void checkFields(Class<?> type, Set<String> publicOnes) {
        int own = 0;
        for (Field f : type.getDeclaredFields()) {
            int m = f.getModifiers();
            own += Modifier.isStatic(m) ? 0 : 1;
            CHECK.yes(f + " is final if it is static", !Modifier.isStatic(m) || Modifier.isFinal(m));
            CHECK.yes(f + " is a constant of the face or private", publicOnes.contains(f.getName())
                ? Modifier.isPublic(m) && Modifier.isStatic(m) && f.getType() == int.class
                : Modifier.isPrivate(m));
        }
        CHECK.yes(type + " has at most 20 fields", own <= 20);
    }

    private static void checkClassesInside() {
        Class<?>[] inside = LabelHall.class.getDeclaredClasses();
        CHECK.yes("at most twelve classes", inside.length + 1 <= 12);
        for (Class<?> c : inside) {
            CHECK.yes(c + " is static and not public", Modifier.isStatic(c.getModifiers())
                && !Modifier.isPublic(c.getModifiers()) && !Modifier.isProtected(c.getModifiers()));
            CHECK.yes(c + " has at most 20 fields", c.getDeclaredFields().length <= 20);
            for (Method m : c.getDeclaredMethods()) {
                CHECK.yes(m + " takes at most seven", m.getParameterCount() <= 7);
            }
        }
    }

    private static String withoutComments(String source) {
        return source.replaceAll("(?s)/\\*.*?\\*/", "").replaceAll("//[^\n]*", "");
    }

    private static void checkWords(String code) {
        for (String word : FORBIDDEN_WORDS) {
            CHECK.yes("no " + word, !Pattern.compile("\\b" + word + "\\b").matcher(code).find());
        }
        CHECK.yes("no lambda", !code.contains("->"));
        CHECK.yes("no method reference", !code.contains("::"));
        CHECK.yes("no annotation", !code.contains("@"));
        CHECK.yes("no text is used", !code.contains("\""));
        Matcher imports = Pattern.compile("import\\s+([^;]+);").matcher(code);
        while (imports.find()) {
            CHECK.yes("import of " + imports.group(1), imports.group(1).equals("java.util.Arrays"));
        }
        Matcher calls = Pattern.compile("\\b(System|Arrays|Math|Integer|Long)\\.(\\w+)").matcher(code);
        Set<String> allowed = Set.of("System.arraycopy", "Arrays.fill", "Math.max", "Math.min", "Math.abs");
        while (calls.find()) {
            CHECK.yes("call of " + calls.group(), allowed.contains(calls.group()));
        }
        for (char c : code.toCharArray()) {
            if (c > 255) {
                CHECK.yes("characters up to 255", false);
            }
        }
    }

    /** Rule 9: a for counts up or down by one, a while changes what its condition begins with. */
    private static void checkLoops(String code) {
        String counted = "for \\(int (\\w+) = [^;]+; [^;]*\\b\\1\\b[^;]*; \\1(\\+\\+|--)\\) \\{";
        String[] lines = code.split("\n");
        int loops = 0;
        for (int i = 0; i < lines.length; i++) {
            String line = lines[i].trim();
            if (line.startsWith("for ")) {
                loops++;
                CHECK.yes("an end can be seen of " + line, line.matches(counted));
            }
            if (line.startsWith("while ")) {
                loops++;
                CHECK.yes("an end can be seen of " + line, changesItsCounter(lines, i));
            }
            CHECK.yes("no do in " + line, !line.startsWith("do "));
        }
        CHECK.yes("the loops were found", loops > 10);
    }

    private static boolean changesItsCounter(String[] lines, int head) {
        Matcher counter = Pattern.compile("while \\((\\w+) [<>]=? ").matcher(lines[head].trim());
        if (!counter.lookingAt()) {
            return false;
        }
        String body = "";
        int indent = lines[head].indexOf("while");
        for (int i = head + 1; i < lines.length && lines[i].indexOf('}') != indent; i++) {
            body += lines[i].trim() + "\n";
        }
        return Pattern.compile("(?m)^" + counter.group(1) + "(\\+\\+|--);$").matcher(body).find();
    }

    private static void checkLengths(String code) {
        int start = 0;
        int depth = 0;
        String[] lines = code.split("\n");
        for (int i = 0; i < lines.length; i++) {
            boolean head = lines[i].matches("\\s+(?!(if|for|while|switch|else|\\}|return)\\b).*\\)\\s*\\{");
            if (head && !lines[i].matches(".*\\b(if|for|while|switch)\\s*\\(.*")) {
                start = i;
                depth = lines[i].indexOf(lines[i].trim());
            }
            if (lines[i].trim().equals("}") && lines[i].indexOf('}') == depth) {
                CHECK.yes("the method at line " + start + " is short", i - start <= 60);
            }
        }
    }

    /** Rules 8 and 11: no method calls itself on any way, and no way is longer than eight calls. */
    private static void checkDepth(String code) {
        Map<String, String> bodies = methodBodies(code);
        CHECK.yes("the methods were found", bodies.keySet().containsAll(Set.of(
            "LabelHall.put", "LabelHall.carry", "Order.insert", "Marks.follow", "State.bring", "State.takeOut")));
        for (String method : bodies.keySet()) {
            int deep = depthOf(method, bodies, 1);
            CHECK.yes(method + " is " + deep + " calls deep", deep <= 8);
        }
    }

    /** What stands in each method, by its class and name; every method of the file begins a line. */
    private static Map<String, String> methodBodies(String code) {
        Pattern head = Pattern.compile(
            "( {4}| {8})(?:(?:public|private|static|final) )*(?:[\\w\\[\\]]+ )?(\\w+)\\(.*\\{");
        Map<String, String> bodies = new TreeMap<>();
        String type = "LabelHall";
        String method = null;
        String closing = "";
        for (String line : code.split("\n")) {
            Matcher typeHead = Pattern.compile(".*\\bclass (\\w+) \\{").matcher(line);
            Matcher begins = head.matcher(line);
            if (typeHead.matches()) {
                type = typeHead.group(1);
            } else if (method == null && begins.matches()) {
                method = type + "." + begins.group(2);
                closing = begins.group(1) + "}";
                CHECK.yes(method + " is there once", bodies.put(method, "") == null);
            } else if (line.equals(closing)) {
                method = null;
            } else if (method != null) {
                bodies.put(method, bodies.get(method) + line + "\n");
            }
        }
        return bodies;
    }

    private static int depthOf(String method, Map<String, String> bodies, int open) {
        if (open > 20) {
            return open;
        }
        int deepest = open;
        Matcher calls = Pattern.compile("(?:([\\w\\])]+)\\.)?\\b(\\w+)\\(").matcher(bodies.get(method));
        while (calls.find()) {
            String called = resolve(method, calls.group(1), calls.group(2), bodies);
            if (called != null) {
                deepest = Math.max(deepest, depthOf(called, bodies, open + 1));
            }
        }
        return deepest;
    }

    /** The method that a call means: of the receiver's class, or the own class, or the one around it. */
    private static String resolve(String from, String receiver, String name, Map<String, String> bodies) {
        String own = from.substring(0, from.indexOf('.') + 1) + name;
        if (receiver == null) {
            return bodies.containsKey(own) ? own : bodies.containsKey("LabelHall." + name) ? "LabelHall." + name : null;
        }
        String type = receiver.equals("order") ? "Order" : receiver.equals("marks") ? "Marks" : "State";
        String called = type + "." + name;
        CHECK.yes("the call of " + receiver + "." + name + " in " + from + " is understood",
            bodies.containsKey(called) || Set.of("System", "Arrays", "Math").contains(receiver));
        return bodies.containsKey(called) ? called : null;
    }

    public static void main(String[] args) throws IOException {
        String code = withoutComments(Files.readString(Path.of("src/main/java/LabelHall.java")));
        checkFace();
        checkClassesInside();
        checkWords(code);
        checkLoops(code);
        checkLengths(code);
        checkDepth(code);
        CHECK.end();
    }
}
