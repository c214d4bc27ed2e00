import java.lang.reflect.Constructor;
import java.lang.reflect.Field;
import java.lang.reflect.Method;
import java.lang.reflect.Modifier;
import java.nio.file.Files;
import java.nio.file.Path;
import java.util.ArrayList;
import java.util.List;
import java.util.Set;
import java.util.TreeSet;
import java.util.regex.Matcher;
import java.util.regex.Pattern;

/** The face of the document, and the rules of the language that can be seen without understanding the program. */
public final class RulesTest {
    private static final String FACE = "int say(int) int wipe() int fault(int) int example() int forget() int pool() "
        + "int drain(int) long plans() int cost(int) int piece(int,int) int place(int) int makes(int) int accept(int) "
        + "long agreeing(int) int asked() int image(int) int restore(int) int told(int)";

    private final Check check = new Check();

    public static void main(String[] args) throws Exception {
        RulesTest test = new RulesTest();
        test.face();
        test.classes();
        test.text();
        test.check.end();
    }

    private static String told(Method method) {
        StringBuilder out = new StringBuilder();
        out.append(method.getReturnType()).append(' ').append(method.getName()).append('(');
        for (int i = 0; i < method.getParameterCount(); i++) {
            out.append(i == 0 ? "" : ",").append(method.getParameterTypes()[i]);
        }
        return out.append(')').toString();
    }

    private void face() throws Exception {
        Set<String> due = new TreeSet<>();
        Matcher matcher = Pattern.compile("(int|long) \\w+\\([^)]*\\)").matcher(FACE);
        while (matcher.find()) {
            due.add(matcher.group());
        }
        Set<String> open = new TreeSet<>();
        for (Method method : EditGuess.class.getDeclaredMethods()) {
            int modifiers = method.getModifiers();
            if (!Modifier.isPrivate(modifiers)) {
                open.add(told(method));
                check.holds(told(method) + " is public, not static", Modifier.isPublic(modifiers)
                    && !Modifier.isStatic(modifiers));
            }
        }
        check.due("methods of the face", due.size(), 18);
        check.holds("the face is " + open, open.equals(due));
        Set<String> constants = new TreeSet<>();
        for (Field field : EditGuess.class.getDeclaredFields()) {
            if (!Modifier.isPrivate(field.getModifiers())) {
                constants.add(field.getName());
                check.due(field.getName() + "'s modifiers", field.getModifiers(),
                    Modifier.PUBLIC | Modifier.STATIC | Modifier.FINAL);
                check.holds(field.getName() + " is int", field.getType() == int.class);
            }
        }
        check.holds("constants " + constants, constants.equals(new TreeSet<>(List.of("NONE", "UNKNOWN", "OUTSIDE", "STATE",
            "FULL", "NO"))));
        Constructor<?>[] made = EditGuess.class.getDeclaredConstructors();
        check.holds("one public constructor", made.length == 1 && Modifier.isPublic(made[0].getModifiers())
            && made[0].getParameterCount() == 0);
        check.due("the class", EditGuess.class.getModifiers(), Modifier.PUBLIC | Modifier.FINAL);
    }

    private void classes() {
        List<Class<?>> all = new ArrayList<>(List.of(EditGuess.class.getDeclaredClasses()));
        for (Class<?> inside : all) {
            check.holds(inside + " is static", Modifier.isStatic(inside.getModifiers()));
            check.holds(inside + " is not open", !Modifier.isPublic(inside.getModifiers())
                && !Modifier.isProtected(inside.getModifiers()));
            check.due("classes in " + inside, inside.getDeclaredClasses().length, 0);
        }
        all.add(EditGuess.class);
        check.holds("twelve classes at most: " + all.size(), all.size() <= 12);
        for (Class<?> one : all) {
            fields(one);
            methods(one);
        }
    }

    private void fields(Class<?> one) {
        int many = 0;
        for (Field field : one.getDeclaredFields()) {
            if (Modifier.isStatic(field.getModifiers())) {
                check.holds(field + " is final", Modifier.isFinal(field.getModifiers()));
            } else {
                many++;
            }
        }
        check.holds(one + " has " + many + " fields", many <= 20);
    }

    private void methods(Class<?> one) {
        for (Method method : one.getDeclaredMethods()) {
            check.holds(method + " takes seven at most", method.getParameterCount() <= 7);
            check.holds(method + " is no lambda", !method.isSynthetic());
            boolean named = FACE.contains(" " + method.getName() + "(");
            check.holds(method + " bears a public name", !named || Modifier.isPublic(method.getModifiers()));
        }
    }

    private void text() throws Exception {
        String source = Files.readString(Path.of("src/main/java/EditGuess.java"));
        check.holds("signs 1 to 127", source.chars().allMatch(sign -> sign > 0 && sign < 128));
        String code = source.replaceAll("(?s)/\\*.*?\\*/", "").replaceAll("//[^\n]*", "");
        Matcher words = Pattern.compile("\\b(throw|throws|try|catch|synchronized|assert|import|package|var|enum|System|Object"
            + "|equals|hashCode|toString|Exact|double|float|instanceof)\\b|->|::|\"|@").matcher(code);
        check.holds("no word of " + (words.find() ? words.group() : ""), !words.reset().find());
        Matcher methods = Pattern.compile("(?m)^( +)[^\n=;]*\\([^\n;]*\\) \\{\n(?:.*\n)*?\\1\\}$").matcher(source);
        int many = 0;
        for (int from = 0; methods.find(from); from = methods.start() + 1) {
            many++;
            long lines = methods.group().lines().count();
            check.holds("lines of " + methods.group().lines().findFirst().orElse(""), lines <= 60);
        }
        check.holds("methods were found: " + many, many > 100);
        check.holds("lines of 130 signs at most", source.lines().allMatch(line -> line.length() <= 130));
    }
}
