import java.io.IOException;
import java.lang.reflect.Constructor;
import java.lang.reflect.Field;
import java.lang.reflect.Method;
import java.lang.reflect.Modifier;
import java.nio.file.Files;
import java.nio.file.Path;
import java.util.ArrayList;
import java.util.List;
import java.util.Set;
import java.util.TreeSet;
import java.util.regex.Matcher;
import java.util.regex.Pattern;

/** What of ../shared/LANGUAGE.md can be seen from the class and its source without reading it. */
public final class LanguageTest {
    private static final Due due = new Due("LanguageTest");
    private static final Set<String> FACE = Set.of(
        "int write(int,long)", "int wipe()", "int fault()", "int town()", "int purse(int)", "int fill(int,int)",
        "int law(int)", "int daily(int,int)", "int shared(int,int)", "int meet(int,int)", "int back()", "int day()",
        "int after(int,int,int)", "int ring(int,int)", "int lead(int,int)", "int later(int,int)", "int dayRing(boolean)",
        "int most(int)", "int mostAt(int,int)", "int pennies(int,int)", "int see(int,int)", "int unsee()",
        "int mayHold(int,int)", "int ruin(int,int)", "int ruinAt(int,int,int)", "int coin()", "int charm(int)",
        "int keep(int)", "int again(int)", "int count(int)");
    private static final String[] FORBIDDEN = {
        "throw", "throws", "try", "catch", "synchronized", "assert", "import (?!java\\.util\\.Arrays;)", "package", "->", "::", "@", "new Object",
        "protected", "transient", "volatile", "System\\.(?!arraycopy)", "Math\\.\\w+Exact", "static \\{", "\" \\+", "\\+ \""};

    public static void main(String[] args) throws IOException {
        face();
        innerClasses();
        String source = Files.readString(Path.of("src/main/java/PursesShare.java"));
        String code = source.replaceAll("(?s)/\\*.*?\\*/", "").replaceAll("//.*", "");
        for (String word : FORBIDDEN) {
            String looked = (isLetter(word, 0) ? "\\b" : "") + word + (isLetter(word, word.length() - 1) ? "\\b" : "");
            due.holds("none of " + word, !Pattern.compile(looked).matcher(code).find());
        }
        methodsAreShort(source);
        due.end();
    }

    private static boolean isLetter(String word, int at) {
        return Character.isLetter(word.charAt(at));
    }

    private static void face() {
        Set<String> methods = new TreeSet<>();
        Set<String> names = new TreeSet<>();
        for (Method method : PursesShare.class.getDeclaredMethods()) {
            if (Modifier.isPrivate(method.getModifiers())) continue;
            due.holds("public: " + method, Modifier.isPublic(method.getModifiers()));
            methods.add(told(method));
            names.add(method.getName());
        }
        due.holds("the face's methods: " + methods, methods.equals(new TreeSet<>(FACE)));
        Set<String> constants = new TreeSet<>();
        for (Field field : PursesShare.class.getDeclaredFields()) {
            if (!Modifier.isPrivate(field.getModifiers())) constants.add(field.getName());
            due.holds("final if static: " + field, !Modifier.isStatic(field.getModifiers()) || Modifier.isFinal(field.getModifiers()));
        }
        due.holds("the face's constants: " + constants, constants.equals(Set.of("UNKNOWN", "OUTSIDE", "STATE", "FULL", "NONE")));
        Constructor<?>[] made = PursesShare.class.getDeclaredConstructors();
        due.is("constructors", made.length, 1);
        due.holds("public constructor", Modifier.isPublic(made[0].getModifiers()) && made[0].getParameterCount() == 0);
        due.holds("final class", Modifier.isFinal(PursesShare.class.getModifiers()));
        for (Class<?> inside : everyClass()) {
            for (Method method : inside.getDeclaredMethods()) {
                boolean face = inside == PursesShare.class && Modifier.isPublic(method.getModifiers());
                due.holds("no private method of a public name: " + method, face || !names.contains(method.getName()));
                due.holds("at most seven parameters: " + method, method.getParameterCount() <= 7);
            }
        }
    }

    private static String told(Method method) {
        List<String> types = new ArrayList<>();
        for (Class<?> type : method.getParameterTypes()) types.add(type.getName());
        return method.getReturnType().getName() + " " + method.getName() + "(" + String.join(",", types) + ")";
    }

    private static List<Class<?>> everyClass() {
        List<Class<?>> all = new ArrayList<>(List.of(PursesShare.class));
        all.addAll(List.of(PursesShare.class.getDeclaredClasses()));
        return all;
    }

    private static void innerClasses() {
        due.holds("at most twelve classes", everyClass().size() <= 12);
        for (Class<?> inside : PursesShare.class.getDeclaredClasses()) {
            due.holds("static: " + inside, Modifier.isStatic(inside.getModifiers()));
            due.holds("not public: " + inside, !Modifier.isPublic(inside.getModifiers()));
            due.is("no class in " + inside, inside.getDeclaredClasses().length, 0);
        }
        for (Class<?> inside : everyClass()) {
            int fields = 0;
            for (Field field : inside.getDeclaredFields()) {
                if (!Modifier.isStatic(field.getModifiers())) fields++;
            }
            due.holds("at most twenty fields in " + inside, fields <= 20);
        }
    }

    /** A method begins with a line that ends in ") {" at a member's indent, and ends with "}" at the same one. */
    private static void methodsAreShort(String source) {
        Matcher method = Pattern.compile("(?ms)^( {4}| {8})(public|private) [^;{=]*\\) \\{$.*?^\\1\\}$").matcher(source);
        int found = 0;
        while (method.find()) {
            found++;
            String text = method.group();
            due.holds("at most sixty lines: " + text.substring(0, text.indexOf('\n')), text.split("\n").length <= 60);
        }
        due.holds("methods were found", found > 60);
    }
}
