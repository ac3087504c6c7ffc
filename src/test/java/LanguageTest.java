import java.lang.reflect.Constructor;
import java.lang.reflect.Field;
import java.lang.reflect.Method;
import java.lang.reflect.Modifier;
import java.nio.file.Files;
import java.nio.file.Path;
import java.util.Arrays;
import java.util.List;
import java.util.Set;
import java.util.TreeSet;
import java.util.regex.Matcher;
import java.util.regex.Pattern;

/** Rules of ../shared/LANGUAGE.md that a program can look at, and the face of the document. */
public final class LanguageTest {
    private static final List<String> FACE = List.of(
        "int feed(int,int)", "int text(int)", "int word(int,int)", "int price(int,int)", "int reads(int,int)",
        "long means(int,int,int)", "int lawful(int,int,int)", "int barred(int,int,int)", "int let(int,int,int)",
        "int good(int,int,int,int)", "int next(int,int,int,int)", "int least(int,int,int)", "int inAll(int,int,int)",
        "int plain(int)", "long cost(int,int,int)", "int dear(int,int,int,int)", "int alone(int,int)",
        "int apart(int,int,int)", "int saves(int,int)", "int table(int,int,int,int,int)", "int act(int,int,int)",
        "int trace(int)", "int taken(int,int)", "int count(int)", "int tape(int,int,int)", "int item(int,int,long)",
        "long read(int,int)", "int shift(int,int,int,int,int)");

    public static void main(String[] args) throws Exception {
        face();
        classesInside();
        words(Files.readString(Path.of("src/main/java/PencilStrikes.java")));
        Check.end();
    }

    private static void stands(String rule, boolean kept) {
        Check.due(rule, kept ? 1 : 0, 1);
    }

    private static String told(Method method) {
        String types = Arrays.toString(Arrays.stream(method.getParameterTypes()).map(Class::getName).toArray());
        String inside = types.substring(1, types.length() - 1).replace(" ", "");
        return method.getReturnType().getName() + " " + method.getName() + "(" + inside + ")";
    }

    private static void face() throws Exception {
        Class<?> c = PencilStrikes.class;
        stands("public and final", Modifier.isPublic(c.getModifiers()) && Modifier.isFinal(c.getModifiers()));
        Set<String> methods = new TreeSet<>();
        for (Method method : c.getDeclaredMethods()) {
            if (!Modifier.isPrivate(method.getModifiers())) {
                stands("public, no static: " + method, method.getModifiers() == Modifier.PUBLIC);
                methods.add(told(method));
            }
        }
        stands("the methods of the face: " + methods, methods.equals(new TreeSet<>(FACE)));
        Constructor<?>[] constructors = c.getDeclaredConstructors();
        stands("one constructor", constructors.length == 1 && constructors[0].getParameterCount() == 0);
        Set<String> constants = new TreeSet<>();
        for (Field field : c.getDeclaredFields()) {
            if (!Modifier.isPrivate(field.getModifiers())) {
                stands("a constant: " + field,
                    field.getModifiers() == (Modifier.PUBLIC | Modifier.STATIC | Modifier.FINAL));
                constants.add(field.getType() + " " + field.getName() + " " + field.get(null));
            }
        }
        stands("the constants: " + constants, constants.equals(Set.of("int NONE -1", "int BAD -2", "int STATE -3",
            "int FULL -4", "long NO " + Long.MIN_VALUE)));
    }

    private static void classesInside() {
        Set<String> publicNames = new TreeSet<>();
        for (String one : FACE) {
            publicNames.add(one.replaceAll(".* (\\w+)\\(.*", "$1"));
        }
        Class<?>[] inside = PencilStrikes.class.getDeclaredClasses();
        stands("few classes", inside.length <= 11);
        for (Class<?> c : inside) {
            stands("static: " + c, Modifier.isStatic(c.getModifiers()) && !Modifier.isPublic(c.getModifiers()));
            fieldsOf(c);
            for (Method method : c.getDeclaredMethods()) {
                stands("no public name: " + method, !publicNames.contains(method.getName()));
                stands("few parameters: " + method, method.getParameterCount() <= 7);
            }
        }
        fieldsOf(PencilStrikes.class);
        for (Method method : PencilStrikes.class.getDeclaredMethods()) {
            boolean isPrivate = Modifier.isPrivate(method.getModifiers());
            stands("no public name: " + method, !isPrivate || !publicNames.contains(method.getName()));
        }
    }

    private static void fieldsOf(Class<?> c) {
        int fields = 0;
        for (Field field : c.getDeclaredFields()) {
            boolean isStatic = Modifier.isStatic(field.getModifiers());
            fields += isStatic ? 0 : 1;
            stands("final: " + field, !isStatic || Modifier.isFinal(field.getModifiers()));
        }
        stands("few fields: " + c, fields <= 20);
    }

    private static void words(String source) {
        String bare = source.replaceAll("(?s)/\\*.*?\\*/", " ").replaceAll("//[^\n]*", " ")
            .replaceAll("\"(?:[^\"\\\\]|\\\\.)*\"", "\"\"").replaceAll("'(?:[^'\\\\]|\\\\.)'", "' '");
        Pattern ruledOut = Pattern.compile("\\b(?:throw|throws|try|catch|finally|synchronized|assert|import|package"
            + "|protected|volatile|native|yield|var|equals|hashCode|toString|System\\.(?!arraycopy)\\w+|Thread|Random"
            + "|\\w+Exact|Exception|Error|Object)\\b|->|::|@|\\?\\s*>|\\bstatic\\s*\\{");
        Matcher found = ruledOut.matcher(bare);
        while (found.find()) {
            stands("ruled out: " + found.group(), false);
        }
        stands("signs up to 127 alone", source.chars().allMatch(c -> c < 128));
        int longest = 0;
        int since = 0;
        for (String line : source.split("\n")) {
            boolean opens = line.matches(" {4,8}[^ /*}].*\\) \\{");
            since = opens ? 0 : since + 1;
            if (line.matches(" {4,8}\\}")) {
                longest = Math.max(longest, since);
            }
        }
        stands("methods of some sixty lines: " + longest, longest <= 60 || source.isEmpty());
    }
}
