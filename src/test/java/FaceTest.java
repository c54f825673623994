import java.io.IOException;
import java.lang.reflect.Constructor;
import java.lang.reflect.Field;
import java.lang.reflect.Method;
import java.lang.reflect.Modifier;
import java.nio.file.Files;
import java.nio.file.Path;
import java.util.Map;
import java.util.Set;
import java.util.TreeMap;
import java.util.TreeSet;
import java.util.regex.Matcher;
import java.util.regex.Pattern;

/** The public face of the document, the limits of promise 24, and those rules of LANGUAGE.md that can be seen from outside. */
public final class FaceTest {
    private static final Due due = new Due();
    private static final String[] FACE = {
        "boolean offer(int,int,int,int,int,int)", "boolean withdraw(int,int)", "boolean prefer(int,int)", "boolean annotate(int,int)",
        "int make(int,int,int,int)", "boolean put(int,int,int,int)", "boolean let(int,int,int)", "boolean walk(int,int,int)",
        "int bind(int,int,int)", "boolean unbind(int,int)", "boolean retire(int,int)", "int lookup(int,int,int,int)",
        "boolean link(int,int,boolean)", "int call(int,int,int,int,int)", "int collect(int)", "int tick(int)",
        "long look(int,int,int,int,int)", "long digest(int,int)", "int known(int,int,int,int)", "int lease(int,int,int)",
        "int state(int,int)", "int fault(int)"};
    private static final String[] CONSTANTS = {"BAD", "OK", "NOTFOUND", "PROHIBITED", "SPOILED", "CIRCLE", "SIGNERS", "INIT", "GONE",
        "WRONG", "FULL", "UNSENDABLE", "UNLINKED", "NOSUCH", "MISFIT", "THROWN"};

    public static void main(String[] args) throws IOException, IllegalAccessException {
        methods();
        constants();
        fields();
        source();
        calls();
        due.close();
    }

    private static void methods() {
        Set<String> seen = new TreeSet<>();
        Set<String> publicNames = new TreeSet<>();
        for (Method m : RemoteDesk.class.getDeclaredMethods()) {
            if (Modifier.isPublic(m.getModifiers())) {
                StringBuilder head = new StringBuilder(m.getReturnType() + " " + m.getName() + "(");
                for (Class<?> type : m.getParameterTypes()) {
                    head.append(head.charAt(head.length() - 1) == '(' ? "" : ",").append(type);
                }
                seen.add(head + ")");
                publicNames.add(m.getName());
            }
        }
        due.is("the public methods " + seen, seen.equals(new TreeSet<>(Set.of(FACE))), true);
        for (Method m : RemoteDesk.class.getDeclaredMethods()) {
            boolean isPrivate = Modifier.isPrivate(m.getModifiers());
            due.is(m + " is public or private", isPrivate || Modifier.isPublic(m.getModifiers()), true);
            due.is(m + " has a name of its own", isPrivate && publicNames.contains(m.getName()), false);
            due.is(m + " has at most seven parameters", m.getParameterCount() <= 7, true);
        }
        Constructor<?>[] constructors = RemoteDesk.class.getDeclaredConstructors();
        due.is("constructors", constructors.length, 1);
        due.is("parameters of the constructor", constructors[0].getParameterCount(), 0);
        due.is("the constructor is public", Modifier.isPublic(constructors[0].getModifiers()), true);
        due.is("the class is public and final", RemoteDesk.class.getModifiers(), Modifier.PUBLIC | Modifier.FINAL);
        due.is("nested classes", RemoteDesk.class.getDeclaredClasses().length, 0);
    }

    private static void constants() throws IllegalAccessException {
        int publicFields = 0;
        for (Field f : RemoteDesk.class.getDeclaredFields()) {
            if (Modifier.isPublic(f.getModifiers())) {
                publicFields++;
                due.is(f + " is a constant", Modifier.isStatic(f.getModifiers()) && Modifier.isFinal(f.getModifiers()), true);
            }
        }
        due.is("public constants", publicFields, CONSTANTS.length + 1);
        for (int i = 0; i < CONSTANTS.length; i++) {
            due.is(CONSTANTS[i], constant(CONSTANTS[i]), i - 1);
        }
        due.is("NONE", RemoteDesk.NONE, 1099511627776L);
    }

    private static int constant(String name) throws IllegalAccessException {
        for (Field f : RemoteDesk.class.getDeclaredFields()) {
            if (f.getName().equals(name)) {
                return f.getInt(null);
            }
        }
        return Integer.MIN_VALUE;
    }

    private static void fields() {
        int ownFields = 0;
        for (Field f : RemoteDesk.class.getDeclaredFields()) {
            boolean isStatic = Modifier.isStatic(f.getModifiers());
            boolean isPublic = Modifier.isPublic(f.getModifiers());
            due.is(f + " is private or of the face", isPublic || Modifier.isPrivate(f.getModifiers()), true);
            due.is(f + " is no static array", isStatic && f.getType().isArray(), false);
            due.is(f + " is final, if an array", !f.getType().isArray() || Modifier.isFinal(f.getModifiers()), true);
            ownFields += isStatic ? 0 : 1;
        }
        due.is("at most forty fields", ownFields <= 40, true);
    }

    private static String code() throws IOException {
        String text = Files.readString(Path.of("src/main/java/RemoteDesk.java"));
        return text.replaceAll("(?s)/\\*.*?\\*/", "").replaceAll("//.*", "");
    }

    private static void source() throws IOException {
        String code = code();
        String[] words = {"import", "package", "throw", "try", "catch", "synchronized", "assert", "instanceof", "null", "String", "Math",
            "Integer", "System", "Arrays", "Object", "float", "double", "this", "super", "enum", "record", "interface"};
        for (String word : words) {
            due.is("the word " + word + " stands in the program", code.matches("(?s).*\\b" + word + "\\b.*"), false);
        }
        String methods = code.substring(code.indexOf("public RemoteDesk()"));
        due.is("a method makes an array or an object", methods.matches("(?s).*\\bnew\\b.*"), false);
        due.is("arrays of arrays", code.contains("[][]"), false);
    }

    /** Rules 8 and 10: no recursion, six calls deep at most, methods of some sixty lines, no call in the arguments of another. */
    private static void calls() throws IOException {
        Map<String, String> bodies = new TreeMap<>();
        Matcher method = Pattern.compile("(?ms)^    (?:public|private)[^;={]*?(\\w+)\\([^)]*\\) \\{\\n(.*?)^    \\}$").matcher(code());
        while (method.find()) {
            bodies.put(method.group(1), method.group(2));
        }
        due.is("methods that were read, with the constructor", bodies.size(), RemoteDesk.class.getDeclaredMethods().length + 1);
        for (String name : bodies.keySet()) {
            String body = bodies.get(name);
            due.is(name + " is short", body.lines().count() <= 60, true);
            due.is(name + " goes at most six deep", depth(name, bodies, 1) <= 6, true);
            due.is(name + " has a call in the arguments of another", hasCallInArguments(body, bodies.keySet()), false);
        }
    }

    private static int depth(String name, Map<String, String> bodies, int before) {
        int deepest = before;
        Matcher call = Pattern.compile("\\b(\\w+)\\(").matcher(bodies.get(name));
        // A method that comes back to itself is found at 7, too.
        while (before < 7 && call.find()) {
            if (bodies.containsKey(call.group(1))) {
                deepest = Math.max(deepest, depth(call.group(1), bodies, before + 1));
            }
        }
        return deepest;
    }

    private static boolean hasCallInArguments(String body, Set<String> names) {
        Matcher call = Pattern.compile("\\b(\\w+)\\(").matcher(body);
        int open = -1;
        while (call.find()) {
            if (!names.contains(call.group(1))) {
                continue;
            }
            if (call.start() < open) {
                return true;
            }
            int level = 1;
            for (open = call.end(); level > 0; open++) {
                level += body.charAt(open) == '(' ? 1 : body.charAt(open) == ')' ? -1 : 0;
            }
        }
        return false;
    }
}
