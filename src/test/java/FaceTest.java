import java.io.IOException;
import java.lang.reflect.Constructor;
import java.lang.reflect.Field;
import java.lang.reflect.Method;
import java.lang.reflect.Modifier;
import java.nio.file.Files;
import java.nio.file.Path;
import java.util.ArrayList;
import java.util.Arrays;
import java.util.List;
import java.util.TreeSet;

/** The face is the document's and no more; rules of LANGUAGE.md that can be seen from outside or from the signs of the file. */
public final class FaceTest {
    private static final String[] FACE = {
        "int sign(int)", "boolean end(int)", "int palace()", "int groups()", "int rule()",
        "int group(int,int) throws NoSuchElementException", "int room(int,int) throws NoSuchElementException",
        "int stay(int,int)", "int leave(int,int)", "int sheet(int,int,int,int,int)", "int off(int)", "int over(int,int)",
        "int stand(int)", "int minute()", "int minutes(int)", "int day()", "int undo()", "int where(int,int)", "int stuck()",
        "int order()", "int best(int)", "int calm(int)", "int many(int,int)", "int gap(int,int)", "int smooth(int)",
        "int every(int)", "int least(int)", "int late(int,int)", "int slack(int)", "int dies(int,int,int)",
        "int loss(int,int)", "int pairs()", "int brief(int)", "int heard(int,int,int)", "int forget()", "int fits(int)",
        "int began(int)", "int season(int,int,int)", "boolean keep(int)", "boolean again(int)", "int count(int)",
        "int row(int) throws NoSuchElementException"
    };
    private static final String[] BANNED = {
        "->", "::", "catch", "finally", "assert ", "synchronized", "Exact(", "import java.util.*", "package ", "System.out",
        "currentTime", "nanoTime", "Random", "Thread", "hashCode", "toString", "static {"
    };
    private static int wrong = 0;

    public static void main(String[] args) throws IOException {
        face();
        classes();
        source();
        System.out.println(wrong == 0 ? "the face is as told" : wrong + " faults of the face");
        if (wrong != 0) System.exit(1);
    }

    private static void fault(String why) {
        wrong++;
        System.out.println(why);
    }

    private static String told(Method m) {
        StringBuilder b = new StringBuilder(m.getReturnType() + " " + m.getName() + "(");
        for (int k = 0; k < m.getParameterCount(); k++) b.append(k > 0 ? "," : "").append(m.getParameterTypes()[k]);
        b.append(")");
        for (Class<?> e : m.getExceptionTypes()) b.append(" throws ").append(e.getSimpleName());
        return b.toString();
    }

    private static void face() {
        Class<?> c = NoTwoInOneRoom.class;
        if (!Modifier.isFinal(c.getModifiers()) || !Modifier.isPublic(c.getModifiers())) fault("the class is not public and final");
        TreeSet<String> face = new TreeSet<>(Arrays.asList(FACE));
        TreeSet<String> found = new TreeSet<>();
        for (Method m : c.getDeclaredMethods()) {
            if (Modifier.isPrivate(m.getModifiers()) || m.isSynthetic()) continue;
            found.add(told(m));
            if (!Modifier.isPublic(m.getModifiers())) fault(m + " is neither public nor private");
        }
        if (!face.equals(found)) fault("the face is " + found + ", not " + face);
        for (Constructor<?> k : c.getDeclaredConstructors()) {
            if (!Modifier.isPublic(k.getModifiers()) || k.getParameterCount() != 0) fault("constructor " + k);
        }
        for (Field f : c.getDeclaredFields()) {
            if (f.getName().equals("NONE") != !Modifier.isPrivate(f.getModifiers())) fault("field " + f);
        }
    }

    private static void classes() {
        List<Class<?>> all = new ArrayList<>();
        all.add(NoTwoInOneRoom.class);
        TreeSet<String> names = new TreeSet<>();
        for (String f : FACE) names.add(f.substring(f.indexOf(' ') + 1, f.indexOf('(')));
        for (Class<?> c : NoTwoInOneRoom.class.getDeclaredClasses()) {
            all.add(c);
            if (!Modifier.isStatic(c.getModifiers()) || Modifier.isPublic(c.getModifiers())) fault(c + " is not static or is public");
            for (Method m : c.getDeclaredMethods()) if (names.contains(m.getName())) fault(m + " bears a name of the face");
        }
        if (all.size() > 12) fault("more than 12 classes");
        for (Class<?> c : all) {
            int fields = 0;
            for (Field f : c.getDeclaredFields()) {
                if (!Modifier.isStatic(f.getModifiers())) fields++;
                else if (!Modifier.isFinal(f.getModifiers())) fault(f + " is static and not final");
            }
            if (fields > 20) fault(c + " has " + fields + " fields");
            for (Method m : c.getDeclaredMethods()) {
                if (m.getParameterCount() > 7) fault(m + " has more than 7 parameters");
                if (c == NoTwoInOneRoom.class && Modifier.isPrivate(m.getModifiers()) && names.contains(m.getName())) fault(m + " bears a name of the face");
            }
        }
    }

    private static void source() throws IOException {
        String s = Files.readString(Path.of("src/main/java/NoTwoInOneRoom.java"));
        for (String b : BANNED) if (s.contains(b)) fault("the file has " + b);
        for (int p = 0; p < s.length(); p++) if (s.charAt(p) > 126) fault("sign " + (int) s.charAt(p) + " at " + p);
        int length = 0;
        for (String line : s.split("\n")) {
            boolean method = line.matches(" {4}( {4})?(public|private|static|int|boolean|void|[A-Z]\\w*).*\\{") && line.contains("(");
            length = method ? 1 : length + 1;
            if (line.matches(" {4}( {4})?}") && length > 60) fault("a method of " + length + " lines ends at: " + line);
            if (line.matches(" {4}( {4})?}")) length = 0;
        }
    }
}
