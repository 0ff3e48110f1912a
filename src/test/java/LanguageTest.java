import java.io.IOException;
import java.lang.reflect.Field;
import java.lang.reflect.Method;
import java.lang.reflect.Modifier;
import java.nio.file.Files;
import java.nio.file.Path;
import java.util.Arrays;
import java.util.TreeSet;
import java.util.regex.Matcher;
import java.util.regex.Pattern;

/** The face (promises 1 to 43 by their names and types) and those rules of LANGUAGE.md that a text shows. */
public final class LanguageTest {
    private static final String[] FACE = {
        "int letter(int)", "int tells()", "int points(int)", "int way(int,int,int,int)", "int kind(int,int,int)",
        "int load(int,int)", "int length(int,int)", "int lose(int)", "int of(int,int)", "int reaches(int)",
        "long time(int,int,int)", "long steps(int,int,int)", "long commute(int,int,int)",
        "long visits(int,int,int,int)", "long resistance(int,int,int)", "long ahead(int,int,int,int)",
        "long flow(int,int,int,int)", "int added(int,int)", "int missed(int,int)", "int bridges(int,int)",
        "int farthest(int)", "int middle()", "long sure(int,int,int,int)", "long fast(int,int,int,int,int)",
        "long bySteps(int,int,int,int)", "int lots(int,int,int,int,int)", "int says(int,int,int)",
        "int whatIs(int,int)", "int row(int)", "int clear()", "int list(int,int)", "int put(int,int,long)",
        "long look(int,int)", "int lays(int,int,int)", "int judge(int,int)", "int slot(int,int,int)",
        "int slots(int,int,int)", "int slotted(int,int,int)", "int like(int,int)", "int image()", "int on()",
        "int count(int)"};
    private static final String[] NEVER = {"import ", "catch", "try", "finally", "throw", "->", "::", "synchronized",
        "assert", "Double.", "Float.", "Exact(", "System.", "Object", "protected ", "instanceof", "@"};

    public static void main(String[] args) throws IOException {
        face();
        names();
        text(withoutComments(Files.readString(Path.of("src/main/java/WalkTimes.java"))));
        Due.end("LanguageTest");
    }

    private static void face() {
        TreeSet<String> want = new TreeSet<>(Arrays.asList(FACE));
        TreeSet<String> got = new TreeSet<>();
        for (Method method : WalkTimes.class.getDeclaredMethods()) {
            if (!Modifier.isPrivate(method.getModifiers())) {
                got.add(signature(method));
            }
        }
        Due.said("the face", got.toString(), want.toString());
        Due.is("constructors", WalkTimes.class.getConstructors().length, 1);
        Due.is("constructors of all sorts", WalkTimes.class.getDeclaredConstructors().length, 1);
        Due.is("final", Modifier.isFinal(WalkTimes.class.getModifiers()) ? 1 : 0, 1);
        for (Field field : WalkTimes.class.getDeclaredFields()) {
            Due.is(field.getName() + " is private", Modifier.isPrivate(field.getModifiers()) ? 1 : 0, 1);
        }
    }

    private static String signature(Method method) {
        StringBuilder text = new StringBuilder();
        text.append(method.getReturnType()).append(' ').append(method.getName()).append('(');
        for (Class<?> type : method.getParameterTypes()) {
            text.append(text.charAt(text.length() - 1) == '(' ? "" : ",").append(type);
        }
        return text.append(')').toString();
    }

    private static void names() {
        TreeSet<String> taken = new TreeSet<>();
        for (String one : FACE) {
            taken.add(one.substring(one.indexOf(' ') + 1, one.indexOf('(')));
        }
        Class<?>[] inside = WalkTimes.class.getDeclaredClasses();
        Due.is("at most some twelve classes", inside.length <= 11 ? 1 : 0, 1);
        for (Method method : WalkTimes.class.getDeclaredMethods()) {
            boolean free = !Modifier.isPrivate(method.getModifiers()) || !taken.contains(method.getName());
            Due.is("the name of " + method, free ? 1 : 0, 1);
        }
        for (Class<?> one : inside) {
            Due.is(one + " is static", Modifier.isStatic(one.getModifiers()) ? 1 : 0, 1);
            for (Method method : one.getDeclaredMethods()) {
                Due.is("the name of " + method, taken.contains(method.getName()) ? 1 : 0, 0);
                Due.is("parameters of " + method, method.getParameterCount() <= 7 ? 1 : 0, 1);
            }
            fieldsOf(one);
        }
        fieldsOf(WalkTimes.class);
    }

    private static void fieldsOf(Class<?> one) {
        int own = 0;
        for (Field field : one.getDeclaredFields()) {
            if (Modifier.isStatic(field.getModifiers())) {
                Due.is(field + " is final", Modifier.isFinal(field.getModifiers()) ? 1 : 0, 1);
                boolean allowed = Arrays.asList(int.class, long.class, boolean.class, char.class, String.class,
                    int[].class, long[].class, char[].class, byte[].class).contains(field.getType());
                Due.is(field + " is of a type that static fields may have", allowed ? 1 : 0, 1);
            } else {
                own++;
            }
        }
        Due.is("fields of " + one + " are some twenty", own <= 20 ? 1 : 0, 1);
    }

    private static String withoutComments(String text) {
        return text.replaceAll("(?s)/\\*.*?\\*/", "").replaceAll("//[^\n]*", "");
    }

    private static void text(String text) {
        for (String word : NEVER) {
            Due.is("\"" + word + "\" in the class", text.contains(word) ? 1 : 0, 0);
        }
        for (int k = 0; k < text.length(); k++) {
            if (text.charAt(k) > 126) {
                Due.is("a sign over 126 at " + k, text.charAt(k), 0);
            }
        }
        // Objects are made with the object alone: 'new' stands in fields' initialisers.
        Matcher made = Pattern.compile("(?m)^.*\\bnew\\b.*$").matcher(text);
        while (made.find()) {
            boolean inField = made.group().matches("\\s*(private )?(final )?[A-Za-z\\[\\]]+ [A-Za-z]+ = new .*;");
            Due.is("made in a field: " + made.group(), inField ? 1 : 0, 1);
        }
    }
}
