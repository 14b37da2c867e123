import java.io.IOException;
import java.lang.reflect.Constructor;
import java.lang.reflect.Field;
import java.lang.reflect.Method;
import java.lang.reflect.Modifier;
import java.nio.file.Files;
import java.nio.file.Path;
import java.util.Set;
import java.util.TreeSet;
import java.util.regex.Matcher;
import java.util.regex.Pattern;

/** The public face, no more and no fewer, and those rules of LANGUAGE.md that a look can find. */
public final class FaceTest {
    private static final String[] METHODS = {
        "int type(int)", "int clear()", "int land()", "int lane(int,int)", "int map(int,int)",
        "int place(int,int)", "int now(int)", "int names(int)", "int asks()", "int digs(int,int)",
        "int burns(int)", "int wipes()", "int undo()", "int far(int,int)", "int by(int,int)",
        "int knot(int)", "int asking(int)", "int clash()", "int fire(int)", "int spite(int)",
        "int spiteful(int)", "int odds(int,int)", "int took(int,int)", "int forget()", "int can(int)",
        "int look()", "int rate(int,int)", "int keep(int)", "int back(int)", "int count(int)",
        "long trace()"};

    public static void main(String[] args) throws IOException {
        Check check = new Check();
        face(check);
        constants(check);
        rules(check);
        insides(check);
        lengthsOfMethods(check);
        check.close("FaceTest");
    }

    private static void face(Check check) {
        Set<String> want = new TreeSet<>(Set.of(METHODS));
        Set<String> got = new TreeSet<>();
        Set<String> hidden = new TreeSet<>();
        for (Method m : AskedMaps.class.getDeclaredMethods()) {
            if (Modifier.isPrivate(m.getModifiers())) {
                hidden.add(m.getName());
                continue;
            }
            StringBuilder s = new StringBuilder(m.getReturnType() + " " + m.getName() + "(");
            for (int i = 0; i < m.getParameterCount(); i++) {
                s.append(i == 0 ? "" : ",").append(m.getParameterTypes()[i]);
            }
            got.add(s.append(")").toString());
            check.due(m + " is public, not static", m.getModifiers(), Modifier.PUBLIC);
        }
        check.due("the methods " + got, got.equals(want) ? 1 : 0, 1);
        for (String name : hidden) {
            check.due(name + " is also public", want.stream().anyMatch(w -> w.contains(" " + name + "(")) ? 1 : 0, 0);
        }
        check.due("the class is public and final", AskedMaps.class.getModifiers(), Modifier.PUBLIC | Modifier.FINAL);
        Constructor<?>[] made = AskedMaps.class.getDeclaredConstructors();
        check.due("constructors", made.length, 1);
        check.due("arguments to make one", made[0].getParameterCount(), 0);
        check.due("the constructor is public", made[0].getModifiers(), Modifier.PUBLIC);
        for (Class<?> inside : AskedMaps.class.getDeclaredClasses()) {
            check.due(inside + " is static", Modifier.isStatic(inside.getModifiers()) ? 1 : 0, 1);
            check.due(inside + " is public or protected", inside.getModifiers() & (Modifier.PUBLIC | Modifier.PROTECTED), 0);
        }
    }

    private static void constants(Check check) {
        Set<String> shown = new TreeSet<>();
        for (Field f : AskedMaps.class.getDeclaredFields()) {
            if (!Modifier.isPrivate(f.getModifiers())) {
                shown.add(f.getName());
            }
        }
        check.due("constants " + shown, shown.equals(Set.of("BAD", "STATE", "FULL", "NONE", "NO")) ? 1 : 0, 1);
        check.due("BAD", AskedMaps.BAD, -1);
        check.due("STATE", AskedMaps.STATE, -2);
        check.due("FULL", AskedMaps.FULL, -3);
        check.due("NONE", AskedMaps.NONE, -9);
        check.due("NO", AskedMaps.NO, -1000000);
    }

    private static void rules(Check check) throws IOException {
        String all = Files.readString(Path.of("src/main/java/AskedMaps.java"));
        for (int i = 0; i < all.length(); i++) {
            if (all.charAt(i) > 127) {
                check.due("a sign above 127 at " + i, all.charAt(i), 0);
            }
        }
        String code = all.replaceAll("(?s)/\\*.*?\\*/", "").replaceAll("//[^\n]*", "");
        String[] never = {"throw", "throws", "try", "catch", "synchronized", "assert", "package", "import",
            "->", "::", "protected", "System.currentTimeMillis", "System.nanoTime", "Random", "Exact"};
        for (String word : never) {
            boolean isWord = Character.isLetter(word.charAt(0));
            Matcher m = Pattern.compile(isWord ? "\\b" + word + "\\b" : Pattern.quote(word)).matcher(code);
            check.due("the code has " + word, m.find() ? 1 : 0, 0);
        }
        Matcher library = Pattern.compile("\\b(System|Math|Integer|Long|Arrays)\\.(\\w+)").matcher(code);
        while (library.find()) {
            check.due("the code calls " + library.group(), Set.of("arraycopy", "min", "max", "abs", "bitCount")
                    .contains(library.group(2)) ? 1 : 0, 1);
        }
        Matcher classes = Pattern.compile("\\b(class|record|enum|interface)\\s+\\w+").matcher(code);
        int many = 0;
        while (classes.find()) {
            many++;
        }
        check.due("more than twelve classes", many > 12 ? 1 : 0, 0);
    }

    /** Rules 1, 3, 5 and 11, as far as the compiled classes show them. */
    private static void insides(Check check) {
        Set<String> shown = new TreeSet<>();
        for (String method : METHODS) {
            shown.add(method.substring(method.indexOf(' ') + 1, method.indexOf('(')));
        }
        for (Class<?> inside : AskedMaps.class.getDeclaredClasses()) {
            for (Method m : inside.getDeclaredMethods()) {
                check.due(m + " bears a public method's name", shown.contains(m.getName()) ? 1 : 0, 0);
            }
            insides(check, inside);
        }
        insides(check, AskedMaps.class);
    }

    private static void insides(Check check, Class<?> of) {
        int fields = 0;
        for (Field f : of.getDeclaredFields()) {
            boolean fixed = Modifier.isStatic(f.getModifiers());
            fields += fixed ? 0 : 1;
            check.due(f + " is static and can change", fixed && !Modifier.isFinal(f.getModifiers()) ? 1 : 0, 0);
            Class<?> type = f.getType();
            while (type.isArray()) {
                type = type.getComponentType();
            }
            boolean own = type.getNestHost() == AskedMaps.class;
            check.due(f + " is of a type that may be", type.isPrimitive() || own && !fixed ? 1 : 0, 1);
        }
        check.due(of + " has more than twenty fields", fields > 20 ? 1 : 0, 0);
        for (Method m : of.getDeclaredMethods()) {
            check.due(m + " has more than seven parameters", m.getParameterCount() > 7 ? 1 : 0, 0);
        }
    }

    /** Rule 11: a method's end stands as far to the right as its beginning. */
    private static void lengthsOfMethods(Check check) throws IOException {
        String[] lines = Files.readString(Path.of("src/main/java/AskedMaps.java")).split("\n");
        Pattern start = Pattern.compile("( +)(?!.*\\b(class|if|for|while|switch|else)\\b).*\\) \\{");
        int methods = 0;
        for (int i = 0; i < lines.length; i++) {
            Matcher m = start.matcher(lines[i]);
            if (m.matches()) {
                int end = i;
                while (end < lines.length && !lines[end].equals(m.group(1) + "}")) {
                    end++;
                }
                methods++;
                check.due("more than sixty lines from line " + (i + 1), end - i + 1 > 60 ? 1 : 0, 0);
            }
        }
        check.due("methods are found", methods > METHODS.length ? 1 : 0, 1);
    }
}
