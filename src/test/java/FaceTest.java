import java.lang.reflect.Constructor;
import java.lang.reflect.Field;
import java.lang.reflect.Member;
import java.lang.reflect.Method;
import java.lang.reflect.Modifier;
import java.nio.file.Files;
import java.nio.file.Path;
import java.util.Arrays;
import java.util.Set;
import java.util.TreeSet;
import java.util.regex.Matcher;
import java.util.regex.Pattern;
import java.util.stream.Collectors;

/** Holds what others see of the class against 'The public face' of the document, and each call against its promise's heading. */
public final class FaceTest {
    private static final Pattern FACE = Pattern.compile("## The public face\\s+```java\\s+(.*?)\\{\\s(.*?)\\n\\}\\s+```", Pattern.DOTALL);
    private static final Pattern PROMISE = Pattern.compile("## Promise (\\d+): (.*?)\\n\\n`(.*?)`");

    private static int wrong = 0;

    private static void hold(boolean so, String what) {
        if (so) return;
        wrong++;
        System.out.println(what);
    }

    public static void main(String[] args) throws Exception {
        String document = Files.readString(Path.of("../shared/DOC.md"));
        Matcher face = FACE.matcher(document);
        hold(face.find(), "the document has no public face");
        Class<?> c = StampQuarrels.class;
        hold((Modifier.toString(c.getModifiers()) + " class " + c.getName()).equals(face.group(1).strip()), "the class is not " + face.group(1));
        Set<String> due = new TreeSet<>();
        for (String line : face.group(2).split("\n")) due.add(withoutNames(line.strip()));
        holdMembers(due, seen(c));
        hold(StampQuarrels.NONE == -1, "NONE is " + StampQuarrels.NONE);
        hold(c.getSuperclass() == Object.class && c.getInterfaces().length == 0, "the class stands below another");
        holdPromises(document, due);
        System.out.println(due.size() + " members of the public face, " + wrong + " faults");
        if (wrong > 0) System.exit(1);
    }

    private static void holdMembers(Set<String> due, Set<String> seen) {
        for (String member : due) hold(seen.contains(member), "it lacks " + member);
        for (String member : seen) hold(due.contains(member), "the document does not know " + member);
    }

    /** Every promise is of a member of the face, and the other way round. */
    private static void holdPromises(String document, Set<String> due) {
        Set<String> promised = new TreeSet<>();
        Matcher promise = PROMISE.matcher(document);
        int n = 0;
        while (promise.find()) {
            n++;
            hold(Integer.parseInt(promise.group(1)) == n, "promise " + promise.group(1) + " is the " + n + "th");
            promised.add(withoutNames("public " + promise.group(3) + ";"));
        }
        promised.add("public static final int NONE = -1;");
        hold(n == 40, n + " promises");
        hold(promised.equals(due), "the promises are not of the face: " + promised);
    }

    private static String withoutNames(String line) {
        return line.replaceAll("(int|long) \\w+(?=[,)])", "$1");
    }

    private static Set<String> seen(Class<?> c) {
        Set<String> all = new TreeSet<>();
        for (Field f : c.getDeclaredFields()) if (shown(f)) all.add(Modifier.toString(f.getModifiers()) + " " + f.getType() + " " + f.getName() + " = -1;");
        for (Constructor<?> k : c.getDeclaredConstructors()) if (shown(k)) all.add(Modifier.toString(k.getModifiers()) + " " + c.getName() + takes(k.getParameterTypes()));
        for (Method m : c.getDeclaredMethods()) if (shown(m)) all.add(Modifier.toString(m.getModifiers()) + " " + m.getReturnType() + " " + m.getName() + takes(m.getParameterTypes()));
        return all;
    }

    private static boolean shown(Member m) {
        return !Modifier.isPrivate(m.getModifiers()) && !m.isSynthetic();
    }

    private static String takes(Class<?>[] types) {
        return Arrays.stream(types).map(Class::getName).collect(Collectors.joining(", ", "(", ");"));
    }
}
