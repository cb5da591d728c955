import java.io.IOException;
import java.lang.reflect.Field;
import java.lang.reflect.Method;
import java.lang.reflect.Modifier;
import java.nio.file.Files;
import java.nio.file.Path;
import java.util.Arrays;
import java.util.List;
import java.util.TreeSet;

/** The face of the class, and what of LANGUAGE.md can be looked at by reflection and in the text. */
public final class RulesTest {
    private static final String FACE = "feed(int) school() fault() told(int) child(int,int) deed(int,int) doIt(int) carry(int,int)"
        + " swap(int,int) throwIt(int) home() takeBack(int) drift(int) undo() loads(int) fair(int) lighter(int) weighs(int,int)"
        + " handed(int,int) light(int,int) see(int,int,boolean) hold() write(int,int) tear() judge() seed(int) keep(int) goBack(int)";
    private static final Check check = new Check();

    public static void main(String[] args) throws IOException {
        face();
        constants();
        membersOfClasses();
        words();
        check.end();
    }

    private static void face() {
        TreeSet<String> due = new TreeSet<>(Arrays.asList(FACE.split(" ")));
        TreeSet<String> got = new TreeSet<>();
        TreeSet<String> names = new TreeSet<>();
        for (Method method : SatchelSins.class.getDeclaredMethods()) {
            if (Modifier.isPublic(method.getModifiers())) {
                got.add(signature(method));
                names.add(method.getName());
                check.isTrue(method.getName() + " answers int", method.getReturnType() == int.class);
            }
        }
        check.isTrue("the public face is " + got, got.equals(due));
        for (Class<?> type : allClasses()) {
            for (Method method : type.getDeclaredMethods()) {
                boolean isPublic = Modifier.isPublic(method.getModifiers());
                check.isTrue(method + " bears a public name", isPublic || !names.contains(method.getName()));
                check.isTrue(method + " has too many parameters", method.getParameterCount() <= 7);
            }
        }
        check.isTrue("public and final", (SatchelSins.class.getModifiers() & (Modifier.PUBLIC | Modifier.FINAL)) == (Modifier.PUBLIC | Modifier.FINAL));
        check.due("constructors", SatchelSins.class.getDeclaredConstructors().length, 1);
    }

    private static String signature(Method method) {
        StringBuilder text = new StringBuilder(method.getName()).append("(");
        for (Class<?> type : method.getParameterTypes()) {
            text.append(text.charAt(text.length() - 1) == '(' ? "" : ",").append(type.getName());
        }
        return text.append(")").toString();
    }

    private static List<Class<?>> allClasses() {
        TreeSet<String> order = new TreeSet<>();
        java.util.ArrayList<Class<?>> all = new java.util.ArrayList<>();
        all.add(SatchelSins.class);
        for (Class<?> inside : SatchelSins.class.getDeclaredClasses()) {
            if (order.add(inside.getName())) {
                all.add(inside);
            }
        }
        return all;
    }

    private static void constants() {
        check.due("NONE", SatchelSins.NONE, Check.NONE);
        check.due("UNKNOWN", SatchelSins.UNKNOWN, Check.UNKNOWN);
        check.due("OUTSIDE", SatchelSins.OUTSIDE, Check.OUTSIDE);
        check.due("NOT", SatchelSins.NOT, Check.NOT);
        check.due("FULL", SatchelSins.FULL, Check.FULL);
    }

    private static void membersOfClasses() {
        check.isTrue("some twelve classes", allClasses().size() <= 12);
        for (Class<?> type : allClasses()) {
            int fields = 0;
            for (Field field : type.getDeclaredFields()) {
                boolean isStatic = Modifier.isStatic(field.getModifiers());
                fields += isStatic ? 0 : 1;
                check.isTrue(field + " is static and not final", !isStatic || Modifier.isFinal(field.getModifiers()));
                check.isTrue(field + " is seen from outside", type != SatchelSins.class
                    || Modifier.isPrivate(field.getModifiers()) || isStatic && Modifier.isPublic(field.getModifiers()));
            }
            check.isTrue(type + " has too many fields", fields <= 20);
            check.isTrue(type + " is not static", type == SatchelSins.class || Modifier.isStatic(type.getModifiers()));
        }
        for (Method method : SatchelSins.class.getDeclaredMethods()) {
            int kind = method.getModifiers();
            check.isTrue(method + " is seen from outside", method.isSynthetic() || Modifier.isPublic(kind) || Modifier.isPrivate(kind));
        }
    }

    private static void words() throws IOException {
        String text = Files.readString(Path.of("src/main/java/SatchelSins.java"));
        String code = text.replaceAll("(?s)/\\*.*?\\*/", " ").replaceAll("//[^\n]*", " ");
        for (String word : "throw try catch synchronized assert package protected float double native volatile transient".split(" ")) {
            check.isTrue("the word " + word, !code.matches("(?s).*\\b" + word + "\\b.*"));
        }
        for (String sign : new String[] {"->", "::", "Exact", "Random", "System.out", "Thread", "@"}) {
            check.isTrue("the sign " + sign, !code.contains(sign));
        }
        for (String line : code.split("\n")) {
            check.isTrue(line, !line.startsWith("import ") || line.equals("import java.util.Arrays;"));
        }
        for (int i = 0; i < text.length(); i++) {
            if (text.charAt(i) > 126) {
                check.isTrue("a sign above 126 at " + i, false);
            }
        }
    }
}
