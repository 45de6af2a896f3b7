import java.io.IOException;
import java.lang.reflect.Constructor;
import java.lang.reflect.Field;
import java.lang.reflect.Method;
import java.lang.reflect.Modifier;
import java.nio.file.Files;
import java.nio.file.Path;
import java.util.Arrays;
import java.util.List;
import java.util.Random;
import java.util.Set;
import java.util.TreeSet;
import java.util.stream.Collectors;

/** The public face, the rules of LANGUAGE.md that a test can see, and that no call ever throws. */
public final class FaceTest {
    private static final List<String> FACE = List.of(
            "int write(long, int)", "int erase()", "int fault()", "int shower()", "int cell(int, int)",
            "int walker(int, int)", "int go(int)", "int keep(int)", "int back(int)", "int done()",
            "int pays(int, int, int, int)", "int rests(int, int, int)", "int common(int, int, int)",
            "int stand(int, int, int)", "int bus()", "int wet(int)", "int driest(int)",
            "int two(int, int, int, int, int)", "int fair(int, int, int)", "int run(int, int, int, int, int, int)",
            "int pace(int, int, int, int)", "long door(int, int, int, int, int)", "long left(int, int, int, int, int)",
            "int seller(int, int)", "int where(int)", "int count(int)");
    private static final List<String> RULED_OUT = List.of("throw", "throws", "try", "catch", "finally", "synchronized",
            "assert", "package", "static {", "->", "::", "protected", "volatile", "native", "Object", "Exact", "NaN",
            "hashCode", "toString", "System.out", "double", "float");

    public static void main(String[] args) throws IOException, ReflectiveOperationException {
        face();
        nested();
        source();
        wildCalls();
        Due.end();
    }

    private static String signature(Method m) {
        return m.getReturnType().getSimpleName() + " " + m.getName() + "(" + Arrays.stream(m.getParameterTypes())
                .map(Class::getSimpleName).collect(Collectors.joining(", ")) + ")";
    }

    private static void yes(String what, boolean is) {
        Due.is(what, is ? 1 : 0, 1);
    }

    private static void face() throws ReflectiveOperationException {
        Class<?> c = UmbrellaStreet.class;
        yes("public", Modifier.isPublic(c.getModifiers()));
        yes("final", Modifier.isFinal(c.getModifiers()));
        Set<String> names = new TreeSet<>();
        Set<String> open = new TreeSet<>();
        for (Method m : c.getDeclaredMethods()) {
            if (Modifier.isPrivate(m.getModifiers())) {
                names.add(m.getName());
            } else {
                yes("public: " + m, Modifier.isPublic(m.getModifiers()) && !Modifier.isStatic(m.getModifiers()));
                open.add(signature(m));
            }
        }
        yes("the methods of the document and no others: " + open, open.equals(new TreeSet<>(FACE)));
        for (String method : FACE) {
            yes("a private one bears the name of " + method, !names.contains(method.replaceAll("^\\w+ |\\(.*", "")));
        }
        Constructor<?>[] made = c.getDeclaredConstructors();
        yes("one constructor", made.length == 1 && Modifier.isPublic(made[0].getModifiers()) && made[0].getParameterCount() == 0);
        String[] constants = {"NONE", "UNKNOWN", "OUTSIDE", "NOT", "FULL"};
        for (int i = 0; i < constants.length; i++) {
            Field f = c.getField(constants[i]);
            Due.is(constants[i], f.getInt(null), -1 - i);
            Due.is(constants[i] + " is as told", f.getModifiers(), Modifier.PUBLIC | Modifier.STATIC | Modifier.FINAL);
        }
        for (Field f : c.getDeclaredFields()) {
            yes("a field of its own is private: " + f, Modifier.isPrivate(f.getModifiers()) || List.of(constants).contains(f.getName()));
            yes("static ones are final: " + f, !Modifier.isStatic(f.getModifiers()) || Modifier.isFinal(f.getModifiers()));
        }
    }

    private static void nested() {
        Class<?>[] inside = UmbrellaStreet.class.getDeclaredClasses();
        yes("twelve classes at most", inside.length < 12);
        for (Class<?> c : inside) {
            yes("static: " + c, Modifier.isStatic(c.getModifiers()));
            yes("no other face: " + c, !Modifier.isPublic(c.getModifiers()) && !Modifier.isProtected(c.getModifiers()));
            long fields = Arrays.stream(c.getDeclaredFields()).filter(f -> !Modifier.isStatic(f.getModifiers())).count();
            yes("twenty fields at most: " + c, fields <= 20);
            for (Method m : c.getDeclaredMethods()) {
                yes("seven parameters at most: " + m, m.getParameterCount() <= 7);
                yes("no name of the face: " + m, FACE.stream().noneMatch(f -> f.contains(" " + m.getName() + "(")));
            }
        }
    }

    private static void source() throws IOException {
        String source = Files.readString(Path.of("src/main/java/UmbrellaStreet.java"));
        String code = source.replaceAll("(?s)/\\*.*?\\*/", " ").replaceAll("//[^\n]*", " ").replaceAll("\"[^\"\n]*\"", "\"\"");
        yes("signs 0 to 127", source.chars().allMatch(c -> c < 128));
        for (String word : RULED_OUT) {
            boolean isWord = Character.isLetter(word.charAt(0)) && !word.contains(" ");
            boolean isThere = isWord ? code.matches("(?s).*\\b" + word.replace(".", "\\.") + "\\b.*") : code.contains(word);
            yes("ruled out: " + word, !isThere);
        }
        for (String line : source.split("\n")) {
            if (line.startsWith("import ")) {
                yes("no other library: " + line, line.equals("import java.util.Arrays;"));
            }
        }
        int from = 0;
        String[] lines = code.split("\n");
        for (int i = 0; i < lines.length; i++) {
            if (lines[i].matches(" +[\\w\\[\\] ]+\\([^;]*\\) \\{") && !lines[i].matches(" +(if|for|while|switch|else).*")) {
                from = i;
            }
            yes("a method of 60 lines at most, line " + i, i - from <= 60 || !lines[i].matches(" {4,8}\\}"));
        }
    }

    private static void wildCalls() throws ReflectiveOperationException {
        Random random = new Random(7);
        int[] odd = {Integer.MIN_VALUE, Integer.MIN_VALUE + 1, -21, -6, -4, -3, -2, -1, 0, 1, 2, 3, 4, 5, 7, 8, 9, 10, 11,
            12, 19, 20, 21, 47, 48, 59, 60, 61, 80, 81, 99, 100, 255, 512, 999, 1000, Integer.MAX_VALUE - 1, Integer.MAX_VALUE};
        List<Method> methods = Arrays.stream(UmbrellaStreet.class.getDeclaredMethods())
                .filter(m -> Modifier.isPublic(m.getModifiers())).sorted((a, b) -> a.getName().compareTo(b.getName()))
                .collect(Collectors.toList());
        for (int run = 0; run < 200; run++) {
            UmbrellaStreet x = run % 2 == 0 ? new UmbrellaStreet() : Due.told("street 4 12;rain 0 59 99;walker 0 3 1 0 9 2 2;"
                    + "walker 1 3 0 0 9 2 1;walker 2 0 0 0 9 1 0;walker 5 1 1 20 1 0 2;awning 11 3");
            for (int i = 0; i < 512; i++) {
                Method m = methods.get(random.nextInt(methods.size()));
                Object[] arguments = new Object[m.getParameterCount()];
                for (int j = 0; j < arguments.length; j++) {
                    int one = odd[random.nextInt(odd.length)];
                    arguments[j] = m.getParameterTypes()[j] == long.class ? (Object) ((long) one * one * 77) : (Object) one;
                }
                Object answer = m.invoke(x, arguments);
                yes("an answer of " + m, ((Number) answer).longValue() >= UmbrellaStreet.FULL);
            }
        }
    }
}
