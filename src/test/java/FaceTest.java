import java.io.IOException;
import java.lang.reflect.Constructor;
import java.lang.reflect.Field;
import java.lang.reflect.Method;
import java.lang.reflect.Modifier;
import java.nio.file.Files;
import java.nio.file.Path;
import java.util.Arrays;
import java.util.Set;
import java.util.TreeSet;
import java.util.regex.Matcher;
import java.util.regex.Pattern;
import java.util.stream.Collectors;

/** The document's face, and what of LANGUAGE.md can be seen from outside or in the words of the source. */
public final class FaceTest {
    private static final String[] METHODS = {
        "strip(int)", "set(int,int)", "grass(int,int)", "letter(int)", "seen(int)", "reads(int)", "off(int)", "mow(int,int)",
        "cut(int)", "fault(int,int,int)", "weeks(int)", "hay(int)", "type(long,int)", "strips()", "words()", "told(int,int)",
        "pay(int,int)", "feud(int,int,boolean)", "count(int)", "written(int,int)", "read(int)", "nearest(int,int)",
        "may(int,int)", "lost(int,int)", "plan(int)", "write(int,int)", "share(int,int,int)", "sure(int,int)", "taken(int,int)",
        "fades(int,int)", "brief(int)", "image()", "restore()", "sow(int,int,int,int)", "sheet(int,int,int)", "drop(int)",
        "item(int,int,int,int)", "film(int,int,int)"};
    private static final String[] CONSTANTS = {"BAD", "NOT", "FULL", "NONE", "NULL", "CAST", "INDEX", "SIZE"};
    private static final int[] VALUES = {-1, -2, -3, -4, -11, -12, -13, -14};

    public static void main(String[] args) throws Exception {
        methods();
        constants();
        constructorAndClass();
        classesInside();
        source();
        Due.end();
    }

    private static void yes(String what, boolean is) {
        Due.is(what, is ? 1 : 0, 1);
    }

    private static void methods() {
        Set<String> face = new TreeSet<>();
        for (Method method : MownWords.class.getDeclaredMethods()) {
            if (!Modifier.isPrivate(method.getModifiers())) {
                String types = Arrays.stream(method.getParameterTypes()).map(Class::getName).collect(Collectors.joining(","));
                face.add(method.getName() + "(" + types + ")");
                yes("public, an int, no exception, of an object: " + method, Modifier.isPublic(method.getModifiers())
                    && !Modifier.isStatic(method.getModifiers()) && method.getReturnType() == int.class
                    && method.getExceptionTypes().length == 0);
            }
        }
        Set<String> due = new TreeSet<>(Arrays.asList(METHODS));
        yes("methods " + face + " for " + due, face.equals(due));
    }

    private static void constants() throws ReflectiveOperationException {
        Set<String> face = new TreeSet<>();
        for (Field field : MownWords.class.getDeclaredFields()) {
            if (!Modifier.isPrivate(field.getModifiers())) {
                face.add(field.getName());
            }
            yes("static means final: " + field, !Modifier.isStatic(field.getModifiers()) || Modifier.isFinal(field.getModifiers()));
        }
        yes("constants " + face, face.equals(new TreeSet<>(Arrays.asList(CONSTANTS))));
        for (int i = 0; i < CONSTANTS.length; i++) {
            Field field = MownWords.class.getField(CONSTANTS[i]);
            yes("type of " + field, field.getType() == int.class && Modifier.isStatic(field.getModifiers()));
            Due.is(CONSTANTS[i], field.getInt(null), VALUES[i]);
        }
    }

    private static void constructorAndClass() {
        Constructor<?>[] constructors = MownWords.class.getDeclaredConstructors();
        yes("one public constructor of nothing", constructors.length == 1 && constructors[0].getParameterCount() == 0
            && Modifier.isPublic(constructors[0].getModifiers()));
        int modifiers = MownWords.class.getModifiers();
        yes("public and final", Modifier.isPublic(modifiers) && Modifier.isFinal(modifiers));
        yes("no package", MownWords.class.getPackageName().isEmpty());
    }

    private static void classesInside() {
        namesOfItsOwn(MownWords.class);
        Class<?>[] inside = MownWords.class.getDeclaredClasses();
        yes("some twelve classes: " + inside.length, inside.length < 14);
        for (Class<?> one : inside) {
            int modifiers = one.getModifiers();
            yes("static, not public: " + one, Modifier.isStatic(modifiers) && !Modifier.isPublic(modifiers) && !Modifier.isProtected(modifiers));
            long fields = Arrays.stream(one.getDeclaredFields()).filter(field -> !Modifier.isStatic(field.getModifiers())).count();
            yes("some twenty fields: " + one, fields < 24);
            namesOfItsOwn(one);
        }
    }

    /** "No private method bears the name of a public one"; "A method takes at most seven parameters". */
    private static void namesOfItsOwn(Class<?> one) {
        Set<String> names = Arrays.stream(METHODS).map(method -> method.substring(0, method.indexOf('('))).collect(Collectors.toSet());
        for (Method method : one.getDeclaredMethods()) {
            yes("a name of its own: " + method, !Modifier.isPrivate(method.getModifiers()) || !names.contains(method.getName()));
            yes("at most seven parameters: " + method, method.getParameterCount() <= 7);
        }
    }

    private static void source() throws IOException {
        String source = Files.readString(Path.of("src/main/java/MownWords.java"));
        String code = source.replaceAll("(?s)/\\*.*?\\*/", "").replaceAll("//[^\n]*", "");
        Pattern forbidden = Pattern.compile("\\b(throw|throws|try|catch|finally|synchronized|assert|volatile|native|Thread"
            + "|Exception|Object|System\\.(?!arraycopy)\\w+|\\w+Exact)\\b|::");
        Matcher matcher = forbidden.matcher(code);
        while (matcher.find()) {
            yes("not of the language: " + matcher.group(), false);
        }
        Matcher imports = Pattern.compile("import ([^;]*);").matcher(code);
        while (imports.find()) {
            yes("import " + imports.group(1), imports.group(1).matches("java\\.util\\.(Arrays|ArrayList|List|Iterator)"));
        }
        yes("signs 1 to 127 alone", source.chars().allMatch(sign -> sign >= 1 && sign <= 127));
    }
}
