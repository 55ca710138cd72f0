import java.io.IOException;
import java.lang.reflect.Constructor;
import java.lang.reflect.Field;
import java.lang.reflect.Method;
import java.lang.reflect.Modifier;
import java.nio.file.Files;
import java.nio.file.Path;
import java.util.ArrayList;
import java.util.List;
import java.util.TreeSet;
import java.util.regex.Matcher;
import java.util.regex.Pattern;

/** The face is the document's and no more; rules of LANGUAGE.md that can be seen from outside or from the signs of the file. */
public final class FaceTest {
    private static final List<String> FACE = new ArrayList<>();
    private static final String[] BANNED = {
        "->", "::", "catch", "finally", "assert ", "synchronized", "Exact(", "import java.util.*", "package ", "System.out",
        "currentTime", "nanoTime", "Random", "Thread", "hashCode", "toString", "static {"
    };
    private static int wrong = 0;

    public static void main(String[] args) throws IOException {
        readFace();
        face();
        classes();
        source();
        System.out.println(wrong == 0 ? "the face is as told" : wrong + " faults of the face");
        if (wrong != 0) System.exit(1);
    }

    private static void fault(String why) {
        wrong++;
        System.out.println(why);
    }

    /** The methods that the document's public face tells, without the names of what they take. */
    private static void readFace() throws IOException {
        String document = Files.readString(Path.of("../shared/DOC.md"));
        Matcher face = Pattern.compile("## The public face\\s+```java\n(.*?)```", Pattern.DOTALL).matcher(document);
        if (!face.find()) fault("the document has no face");
        else for (String line : face.group(1).split("\n")) {
            Matcher m = Pattern.compile(" *public (int|boolean) (\\w+)\\((.*?)\\)(.*);").matcher(line);
            if (m.matches()) FACE.add(m.group(1) + " " + m.group(2) + "(" + m.group(3).replaceAll(" \\w+(,|$)", "$1").replace(" ", "") + ")" + m.group(4));
        }
        if (FACE.size() != 42) fault("the document's face has " + FACE.size() + " methods");
    }

    private static String told(Method m) {
        StringBuilder b = new StringBuilder(m.getReturnType() + " " + m.getName() + "(");
        for (int k = 0; k < m.getParameterCount(); k++) b.append(k > 0 ? "," : "").append(m.getParameterTypes()[k]);
        b.append(")");
        for (Class<?> e : m.getExceptionTypes()) b.append(" throws ").append(e.getSimpleName());
        return b.toString();
    }

    private static void face() {
        Class<?> c = NoTwoInOneRoom.class;
        if (!Modifier.isFinal(c.getModifiers()) || !Modifier.isPublic(c.getModifiers())) fault("the class is not public and final");
        TreeSet<String> face = new TreeSet<>(FACE);
        TreeSet<String> found = new TreeSet<>();
        for (Method m : c.getDeclaredMethods()) {
            if (Modifier.isPrivate(m.getModifiers()) || m.isSynthetic()) continue;
            found.add(told(m));
            if (!Modifier.isPublic(m.getModifiers())) fault(m + " is neither public nor private");
        }
        if (!face.equals(found)) fault("the face is " + found + ", not " + face);
        for (Constructor<?> k : c.getDeclaredConstructors()) {
            if (!Modifier.isPublic(k.getModifiers()) || k.getParameterCount() != 0) fault("constructor " + k);
        }
        if (NoTwoInOneRoom.NONE != -1) fault("NONE is " + NoTwoInOneRoom.NONE);
        for (Field f : c.getDeclaredFields()) {
            if (f.getName().equals("NONE") != !Modifier.isPrivate(f.getModifiers())) fault("field " + f);
        }
    }

    private static void classes() {
        List<Class<?>> all = new ArrayList<>();
        all.add(NoTwoInOneRoom.class);
        TreeSet<String> names = new TreeSet<>();
        for (String f : FACE) names.add(f.substring(f.indexOf(' ') + 1, f.indexOf('(')));
        for (Class<?> c : NoTwoInOneRoom.class.getDeclaredClasses()) {
            all.add(c);
            if (!Modifier.isStatic(c.getModifiers()) || Modifier.isPublic(c.getModifiers())) fault(c + " is not static or is public");
            for (Method m : c.getDeclaredMethods()) if (names.contains(m.getName())) fault(m + " bears a name of the face");
        }
        if (all.size() > 12) fault("more than 12 classes");
        for (Class<?> c : all) {
            int fields = 0;
            for (Field f : c.getDeclaredFields()) {
                if (!Modifier.isStatic(f.getModifiers())) fields++;
                else if (!Modifier.isFinal(f.getModifiers())) fault(f + " is static and not final");
            }
            if (fields > 20) fault(c + " has " + fields + " fields");
            for (Method m : c.getDeclaredMethods()) {
                if (m.getParameterCount() > 7) fault(m + " has more than 7 parameters");
                if (c == NoTwoInOneRoom.class && Modifier.isPrivate(m.getModifiers()) && names.contains(m.getName())) fault(m + " bears a name of the face");
            }
        }
    }

    private static void source() throws IOException {
        String s = Files.readString(Path.of("src/main/java/NoTwoInOneRoom.java"));
        for (String b : BANNED) if (s.contains(b)) fault("the file has " + b);
        for (int p = 0; p < s.length(); p++) if (s.charAt(p) > 126) fault("sign " + (int) s.charAt(p) + " at " + p);
        int length = 0;
        boolean constructor = false;
        for (String line : s.split("\n")) {
            boolean method = line.matches(" {4}( {4})?(public|private|static|int|boolean|void|[A-Z]\\w*).*\\{") && line.contains("(");
            length = method ? 1 : length + 1;
            if (method) constructor = line.matches(" {4}(public |    )[A-Z]\\w*\\(.*");
            // rows are made once, so that calls make no objects but what they throw
            if (line.matches(".*\\bnew \\w.*") && !line.contains("throw new NoSuchElementException()") && !constructor) fault("made in a call: " + line);
            if (line.matches(" {4}( {4})?}") && length > 60) fault("a method of " + length + " lines ends at: " + line);
            if (line.matches(" {4}( {4})?}")) length = 0;
        }
    }
}
