import java.io.IOException;
import java.lang.reflect.Field;
import java.lang.reflect.Method;
import java.lang.reflect.Modifier;
import java.nio.file.Files;
import java.nio.file.Path;
import java.util.Arrays;
import java.util.Map;
import java.util.Set;
import java.util.TreeMap;
import java.util.TreeSet;
import java.util.regex.Matcher;
import java.util.regex.Pattern;

// The public face of the document, and those rules of LANGUAGE.md that reflection or the text of the source can show.
public final class FaceTest {
    private static final Path SOURCE = Path.of("src/main/java/DraughtsBoard.java");

    private static final Set<String> PUBLIC_METHODS = new TreeSet<>(Arrays.asList(
            "boolean place(int, int)", "void start()", "boolean turn(int)", "int side()", "int at(int)",
            "int count(int)", "int moves()", "boolean mustJump()", "int path(int, int)", "int length(int)",
            "int play(int)", "boolean back()", "int plays(int)", "int mostTaken()", "int movable()"));

    private static final String[] NOT_IN_THE_LANGUAGE = {
        "import", "package", "float", "double", "String", "Math", "Integer", "System", "Arrays", "Object", "null",
        "throw", "throws", "try", "catch", "synchronized", "assert", "instanceof", "interface", "enum", "record",
        "protected", "this", "super",
    };

    private static final int MOST_DEPTH = 6;

    private static int wrong = 0;

    public static void main(String[] args) throws IOException {
        face();
        members();
        source();
        calls();
        System.out.println(wrong == 0 ? "the face is as due" : wrong + " faults in the face");
        if (wrong != 0) {
            System.exit(1);
        }
    }

    private static void must(boolean holds, String what) {
        if (!holds) {
            wrong++;
            System.out.println("not so: " + what);
        }
    }

    private static String signature(Method method) {
        StringBuilder text = new StringBuilder(method.getReturnType() + " " + method.getName() + "(");
        for (Class<?> type : method.getParameterTypes()) {
            text.append(text.charAt(text.length() - 1) == '(' ? "" : ", ").append(type);
        }
        return text.append(")").toString();
    }

    private static void face() {
        Class<?> face = DraughtsBoard.class;
        must(Modifier.isPublic(face.getModifiers()) && Modifier.isFinal(face.getModifiers()), "public final class");
        must(face.getDeclaredConstructors().length == 1 && face.getConstructors().length == 1, "one constructor");
        must(face.getConstructors()[0].getParameterCount() == 0, "a constructor without parameters");
        Set<String> found = new TreeSet<>();
        for (Method method : face.getDeclaredMethods()) {
            if (!Modifier.isPrivate(method.getModifiers())) {
                must(Modifier.isPublic(method.getModifiers()), method.getName() + " is public or private");
                must(!Modifier.isStatic(method.getModifiers()), method.getName() + " is not static");
                found.add(signature(method));
            }
        }
        must(found.equals(PUBLIC_METHODS), "the public methods are the document's: " + found);
        must(DraughtsBoard.BAD == -1, "BAD is -1");
    }

    private static void members() {
        int fields = 0;
        for (Field field : DraughtsBoard.class.getDeclaredFields()) {
            int modifiers = field.getModifiers();
            boolean constant = Modifier.isStatic(modifiers);
            fields += constant ? 0 : 1;
            must(Modifier.isPrivate(modifiers) || field.getName().equals("BAD"), field.getName() + " is private");
            must(!constant || Modifier.isFinal(modifiers) && field.getType() == int.class,
                    field.getName() + " is a constant of int");
        }
        must(fields <= 40, "at most forty fields");
        must(DraughtsBoard.class.getDeclaredClasses().length == 0, "no nested class");
        Set<String> publicNames = new TreeSet<>();
        for (String signature : PUBLIC_METHODS) {
            publicNames.add(signature.substring(signature.indexOf(' ') + 1, signature.indexOf('(')));
        }
        for (Method method : DraughtsBoard.class.getDeclaredMethods()) {
            boolean isPrivate = Modifier.isPrivate(method.getModifiers());
            must(!isPrivate || !publicNames.contains(method.getName()), method.getName() + " is no private method");
            must(method.getParameterCount() <= 7, method.getName() + " takes at most seven parameters");
            must(!method.getReturnType().isArray(), method.getName() + " answers no array");
        }
    }

    private static String codeWithoutComments() throws IOException {
        return Files.readString(SOURCE).replaceAll("(?s)/\\*.*?\\*/", "").replaceAll("//[^\n]*", "");
    }

    private static void source() throws IOException {
        String code = codeWithoutComments();
        for (String word : NOT_IN_THE_LANGUAGE) {
            must(!Pattern.compile("\\b" + word + "\\b").matcher(code).find(), "no word " + word);
        }
        must(!code.contains("->") && !code.contains("::"), "no lambda and no method reference");
        for (String line : code.split("\n")) {
            boolean makes = Pattern.compile("\\bnew\\b").matcher(line).find();
            must(!makes || line.matches("    private final int\\[\\] \\w+ = new int\\[[A-Z_0-9]+\\];"),
                    "arrays are made in fields' initialisers: " + line);
        }
    }

    // A method begins on a line indented by four that ends with ") {", and ends with the brace so indented.
    private static Map<String, String> bodies() throws IOException {
        Map<String, String> bodies = new TreeMap<>();
        Matcher method = Pattern.compile("(?ms)^    \\w[^\n=;]*?(\\w+)\\([^\n]*\\) \\{\n(.*?)^    \\}\n")
                .matcher(codeWithoutComments());
        while (method.find()) {
            must(bodies.put(method.group(1), method.group(2)) == null, method.group(1) + " is the one of its name");
        }
        return bodies;
    }

    private static void calls() throws IOException {
        Map<String, String> bodies = bodies();
        // The constructor has a body like the methods.
        must(bodies.size() == DraughtsBoard.class.getDeclaredMethods().length + 1, "all methods are looked at");
        Map<String, Set<String>> called = new TreeMap<>();
        for (Map.Entry<String, String> body : bodies.entrySet()) {
            must(body.getValue().split("\n").length <= 60, body.getKey() + " is short");
            called.put(body.getKey(), namesCalled(body.getKey(), body.getValue(), bodies.keySet()));
        }
        for (String name : bodies.keySet()) {
            must(depth(name, called, 1) <= MOST_DEPTH, name + " calls at most six deep, and never itself");
        }
    }

    private static Set<String> namesCalled(String caller, String body, Set<String> methods) {
        Set<String> names = new TreeSet<>();
        Matcher call = Pattern.compile("\\b(\\w+)\\(").matcher(body);
        while (call.find()) {
            if (methods.contains(call.group(1))) {
                names.add(call.group(1));
                must(!hasCall(argumentsFrom(body, call.end()), methods), "no call in a call's arguments: " + caller);
            }
        }
        return names;
    }

    private static String argumentsFrom(String body, int begin) {
        int open = 1;
        int end = begin;
        while (open > 0) {
            open += body.charAt(end) == '(' ? 1 : body.charAt(end) == ')' ? -1 : 0;
            end++;
        }
        return body.substring(begin, end - 1);
    }

    private static boolean hasCall(String text, Set<String> methods) {
        Matcher call = Pattern.compile("\\b(\\w+)\\(").matcher(text);
        while (call.find()) {
            if (methods.contains(call.group(1))) {
                return true;
            }
        }
        return false;
    }

    // A ring of calls is found as one that is too deep.
    private static int depth(String name, Map<String, Set<String>> called, int before) {
        int deepest = before;
        if (before <= MOST_DEPTH) {
            for (String next : called.get(name)) {
                deepest = Math.max(deepest, depth(next, called, before + 1));
            }
        }
        return deepest;
    }
}
