import java.io.IOException;
import java.lang.reflect.Field;
import java.lang.reflect.Method;
import java.lang.reflect.Modifier;
import java.nio.file.Files;
import java.nio.file.Path;
import java.util.ArrayList;
import java.util.Arrays;
import java.util.List;
import java.util.Map;
import java.util.TreeMap;
import java.util.TreeSet;
import java.util.regex.Matcher;
import java.util.regex.Pattern;

/** The face of the class, and what of LANGUAGE.md can be looked at by reflection and in the text. */
public final class RulesTest {
    private static final String FACE = "feed(int) school() fault() told(int) child(int,int) deed(int,int) doIt(int) carry(int,int)"
        + " swap(int,int) throwIt(int) home() takeBack(int) drift(int) undo() loads(int) fair(int) lighter(int) weighs(int,int)"
        + " handed(int,int) light(int,int) see(int,int,boolean) hold() write(int,int) tear() judge() seed(int) keep(int) goBack(int)";
    private static final Check check = new Check();

    public static void main(String[] args) throws IOException {
        face();
        constants();
        membersOfClasses();
        words();
        lengthsAndDepths();
        roomOfCalls();
        check.end();
    }

    private static void face() {
        TreeSet<String> due = new TreeSet<>(Arrays.asList(FACE.split(" ")));
        TreeSet<String> got = new TreeSet<>();
        TreeSet<String> names = new TreeSet<>();
        for (Method method : SatchelSins.class.getDeclaredMethods()) {
            if (Modifier.isPublic(method.getModifiers())) {
                got.add(signature(method));
                names.add(method.getName());
                check.isTrue(method.getName() + " answers int", method.getReturnType() == int.class);
            }
        }
        check.isTrue("the public face is " + got, got.equals(due));
        for (Class<?> type : allClasses()) {
            for (Method method : type.getDeclaredMethods()) {
                boolean isPublic = Modifier.isPublic(method.getModifiers());
                check.isTrue(method + " bears a public name", isPublic || !names.contains(method.getName()));
                check.isTrue(method + " has too many parameters", method.getParameterCount() <= 7);
            }
        }
        check.isTrue("public and final", (SatchelSins.class.getModifiers() & (Modifier.PUBLIC | Modifier.FINAL)) == (Modifier.PUBLIC | Modifier.FINAL));
        check.due("constructors", SatchelSins.class.getDeclaredConstructors().length, 1);
    }

    private static String signature(Method method) {
        StringBuilder text = new StringBuilder(method.getName()).append("(");
        for (Class<?> type : method.getParameterTypes()) {
            text.append(text.charAt(text.length() - 1) == '(' ? "" : ",").append(type.getName());
        }
        return text.append(")").toString();
    }

    private static List<Class<?>> allClasses() {
        TreeSet<String> order = new TreeSet<>();
        List<Class<?>> all = new ArrayList<>();
        all.add(SatchelSins.class);
        for (Class<?> inside : SatchelSins.class.getDeclaredClasses()) {
            if (order.add(inside.getName())) {
                all.add(inside);
            }
        }
        return all;
    }

    private static void constants() {
        check.due("NONE", SatchelSins.NONE, Check.NONE);
        check.due("UNKNOWN", SatchelSins.UNKNOWN, Check.UNKNOWN);
        check.due("OUTSIDE", SatchelSins.OUTSIDE, Check.OUTSIDE);
        check.due("NOT", SatchelSins.NOT, Check.NOT);
        check.due("FULL", SatchelSins.FULL, Check.FULL);
    }

    private static void membersOfClasses() {
        check.isTrue("some twelve classes", allClasses().size() <= 12);
        for (Class<?> type : allClasses()) {
            int fields = 0;
            for (Field field : type.getDeclaredFields()) {
                boolean isStatic = Modifier.isStatic(field.getModifiers());
                fields += isStatic ? 0 : 1;
                check.isTrue(field + " is static and not final", !isStatic || Modifier.isFinal(field.getModifiers()));
                check.isTrue(field + " is seen from outside", type != SatchelSins.class
                    || Modifier.isPrivate(field.getModifiers()) || isStatic && Modifier.isPublic(field.getModifiers()));
            }
            check.isTrue(type + " has too many fields", fields <= 20);
            check.isTrue(type + " is not static", type == SatchelSins.class || Modifier.isStatic(type.getModifiers()));
        }
        for (Method method : SatchelSins.class.getDeclaredMethods()) {
            int kind = method.getModifiers();
            check.isTrue(method + " is seen from outside", method.isSynthetic() || Modifier.isPublic(kind) || Modifier.isPrivate(kind));
        }
    }

    private static void words() throws IOException {
        String text = program();
        String code = withoutComments(text);
        for (String word : "throw try catch synchronized assert package protected float double native volatile transient".split(" ")) {
            check.isTrue("the word " + word, !code.matches("(?s).*\\b" + word + "\\b.*"));
        }
        for (String sign : new String[] {"->", "::", "Exact", "Random", "System.out", "Thread", "@"}) {
            check.isTrue("the sign " + sign, !code.contains(sign));
        }
        for (String line : code.split("\n")) {
            check.isTrue(line, !line.startsWith("import ") || line.equals("import java.util.Arrays;"));
        }
        for (int i = 0; i < text.length(); i++) {
            if (text.charAt(i) > 126) {
                check.isTrue("a sign above 126 at " + i, false);
            }
        }
    }

    private static String program() throws IOException {
        return Files.readString(Path.of("src/main/java/SatchelSins.java"));
    }

    private static String withoutComments(String text) {
        return text.replaceAll("(?s)/\\*.*?\\*/", " ").replaceAll("//[^\n]*", " ");
    }

    /** Rule 11. Methods are told apart by their names alone, so a depth that is found is no less than the true one. */
    private static void lengthsAndDepths() throws IOException {
        Map<String, String> bodies = bodies(withoutComments(program()));
        check.isTrue("methods are found", bodies.size() > 80 && bodies.keySet().containsAll(List.of("drift", "place", "firstWrong")));
        for (String name : bodies.keySet()) {
            check.isTrue(name + " is too long", bodies.get(name).lines().count() <= 60 * Math.max(1, methodsNamed(name)));
            check.isTrue(name + " goes " + depth(name, bodies, new ArrayList<>()) + " deep", depth(name, bodies, new ArrayList<>()) <= 8);
        }
    }

    private static int methodsNamed(String name) {
        int count = 0;
        for (Class<?> type : allClasses()) {
            for (Method method : type.getDeclaredMethods()) {
                count += method.getName().equals(name) ? 1 : 0;
            }
        }
        return count;
    }

    private static Map<String, String> bodies(String code) {
        Map<String, String> bodies = new TreeMap<>();
        Matcher head = Pattern.compile("(?m)^( +)(?:public |private )?(?:int|void|boolean) (\\w+)\\([^)]*\\) \\{\n").matcher(code);
        while (head.find()) {
            int end = code.indexOf("\n" + head.group(1) + "}\n", head.end() - 1);
            bodies.merge(head.group(2), code.substring(head.end(), Math.max(head.end(), end)), String::concat);
        }
        return bodies;
    }

    private static int depth(String name, Map<String, String> bodies, List<String> open) {
        int deepest = 0;
        open.add(name);
        for (String called : bodies.keySet()) {
            if (!open.contains(called) && bodies.get(name).matches("(?s).*\\b" + called + "\\(.*")) {
                deepest = Math.max(deepest, depth(called, bodies, open));
            }
        }
        open.remove(name);
        return 1 + deepest;
    }

    /** Everything is made with the object: no call takes of the room that all calls share. */
    private static void roomOfCalls() throws IOException {
        for (String body : bodies(withoutComments(program())).values()) {
            check.isTrue("a method makes an object: " + body, !body.matches("(?s).*\\bnew\\b.*"));
        }
    }
}
