import java.io.IOException;
import java.lang.reflect.Constructor;
import java.lang.reflect.Field;
import java.lang.reflect.InvocationTargetException;
import java.lang.reflect.Method;
import java.lang.reflect.Modifier;
import java.nio.file.Files;
import java.nio.file.Path;
import java.util.Arrays;
import java.util.HashSet;
import java.util.Set;
import java.util.TreeSet;
import java.util.regex.Matcher;
import java.util.regex.Pattern;

/** The public face, and that nothing else of the class can be seen from outside. */
final class FaceTests {
    private static final String[] FACE = {
        "int addAll()", "int append(int)", "int bestOrder(int)", "int clearBuffer()", "int count(int)",
        "int cut(int,int)", "long digest()", "int doneIn(int)", "int drop(int)", "int firstError()",
        "int ifPassed(int,int)", "double laidShare()", "int missing(int)", "int pass(int)",
        "int section(int,int,int)", "int sectionOf(int,int)", "int set(int,int)", "int setting(int)",
        "int store(int,int)", "int sweep(int)", "int taken(int)", "int tip(int,int)", "int tone(int,int)",
        "int tray(int,int)", "int undo()",
    };

    // What stands in front of a body, a value or the end of a declaration.
    private static final Pattern PUBLIC = Pattern.compile("\\bpublic [^;{=]*");

    private FaceTests() {
    }

    /** The names of the calls. */
    static Set<String> names() {
        Set<String> names = new TreeSet<>();
        for (String signature : FACE) {
            names.add(signature.substring(signature.indexOf(' ') + 1, signature.indexOf('(')));
        }
        return names;
    }

    static void promise01TheFaceIsTheCodeBlockOfTheDocument() throws IOException {
        String document = Files.readString(Path.of("..", "shared", "DOC.md"));
        int start = document.indexOf("```java");
        String block = document.substring(start, document.indexOf("```", start + 3));
        Set<String> due = publicIn(block);
        Set<String> got = publicIn(Files.readString(Path.of("src", "main", "java", "GoldSheets.java")));
        // The class, NONE, the constructor and the calls.
        Checks.due("public declarations of the document", due.size(), 3 + FACE.length);
        Checks.dueText("the public declarations", String.join("\n", got), String.join("\n", due));
    }

    private static Set<String> publicIn(String text) {
        Set<String> declarations = new TreeSet<>();
        Matcher matcher = PUBLIC.matcher(text);
        while (matcher.find()) {
            declarations.add(matcher.group().replaceAll("\\s+", " ").trim());
        }
        return declarations;
    }

    static void promise01TheFaceIsThatOfTheDocument() {
        Set<String> open = new TreeSet<>();
        Set<String> openNames = new HashSet<>();
        for (Method method : GoldSheets.class.getDeclaredMethods()) {
            if (!Modifier.isPrivate(method.getModifiers())) {
                open.add(signatureOf(method));
                openNames.add(method.getName());
                Checks.holds(method.getName() + " is public", Modifier.isPublic(method.getModifiers()));
            }
        }
        Checks.holds("the methods " + open, open.equals(new TreeSet<>(Arrays.asList(FACE))));
        Checks.holds("no private method bears a public name", privateNames(GoldSheets.class, openNames).isEmpty());
        Checks.holds("the class is final", Modifier.isFinal(GoldSheets.class.getModifiers()));
        Constructor<?>[] constructors = GoldSheets.class.getDeclaredConstructors();
        Checks.due("constructors", constructors.length, 1);
        Checks.due("parameters of the constructor", constructors[0].getParameterCount(), 0);
        Checks.holds("the constructor is public", Modifier.isPublic(constructors[0].getModifiers()));
        Checks.due("exceptions of the constructor", constructors[0].getExceptionTypes().length, 0);
    }

    static void promise01TheOnlyOpenFieldIsNone() {
        for (Field field : GoldSheets.class.getDeclaredFields()) {
            boolean isPrivate = Modifier.isPrivate(field.getModifiers());
            Checks.holds(field.getName() + " is private or NONE", isPrivate || field.getName().equals("NONE"));
            if (Modifier.isStatic(field.getModifiers())) {
                Checks.holds(field.getName() + " is final", Modifier.isFinal(field.getModifiers()));
            }
        }
        Checks.due("NONE", GoldSheets.NONE, -1);
    }

    static void promise01NothingButTheExceptionsOfTheFaceIsThrown() throws IllegalAccessException {
        int[] odd = {Integer.MIN_VALUE, -1, 0, 1, 59, Integer.MAX_VALUE};
        for (Method method : GoldSheets.class.getDeclaredMethods()) {
            if (!Modifier.isPublic(method.getModifiers())) {
                continue;
            }
            GoldSheets x = Looks.withText("5a@9");
            x.section(0, 9, 9);
            int arguments = method.getParameterCount();
            for (int mix = 0; mix < Math.pow(odd.length, arguments); mix++) {
                Object[] values = new Object[arguments];
                for (int index = 0, rest = mix; index < arguments; index++, rest /= odd.length) {
                    values[index] = odd[rest % odd.length];
                }
                Checks.holds(signatureOf(method) + " of " + Arrays.toString(values), isOfTheFace(x, method, values));
            }
        }
    }

    private static boolean isOfTheFace(GoldSheets x, Method method, Object[] values) throws IllegalAccessException {
        try {
            method.invoke(x, values);
            return true;
        } catch (InvocationTargetException e) {
            return Arrays.asList(method.getExceptionTypes()).contains(e.getCause().getClass());
        }
    }

    private static String signatureOf(Method method) {
        StringBuilder text = new StringBuilder(method.getReturnType().getName());
        text.append(' ').append(method.getName()).append('(');
        for (Class<?> type : method.getParameterTypes()) {
            text.append(text.charAt(text.length() - 1) == '(' ? "" : ",").append(type.getName());
        }
        return text.append(')').toString();
    }

    private static Set<String> privateNames(Class<?> owner, Set<String> among) {
        Set<String> names = new TreeSet<>();
        for (Method method : owner.getDeclaredMethods()) {
            if (Modifier.isPrivate(method.getModifiers()) && among.contains(method.getName())) {
                names.add(method.getName());
            }
        }
        for (Class<?> inside : owner.getDeclaredClasses()) {
            for (Method method : inside.getDeclaredMethods()) {
                if (among.contains(method.getName())) {
                    names.add(inside.getSimpleName() + "." + method.getName());
                }
            }
        }
        return names;
    }
}
