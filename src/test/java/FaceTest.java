import java.lang.reflect.Constructor;
import java.lang.reflect.Field;
import java.lang.reflect.Method;
import java.lang.reflect.Modifier;
import java.nio.file.Files;
import java.nio.file.Path;
import java.util.Arrays;
import java.util.HashSet;
import java.util.List;
import java.util.Set;
import java.util.TreeSet;
import java.util.regex.Matcher;
import java.util.regex.Pattern;

/** The public face, and the rules of the language that can be read off the class and its source. */
public final class FaceTest {
    private static final String I = "IndexOutOfBoundsException";
    private static final String A = "IllegalArgumentException";
    private static final String S = "IllegalStateException";
    private static final String[] FACE = {
        "int network(int) " + A, "int add(int,int) " + I + "," + A + "," + S, "int take() " + S,
        "int make(int) " + A + "," + S, "void mirror() ", "int untangle() ", "int prune() ",
        "int told(int) " + A, "int comparator(int,int) " + I + "," + A, "char textAt(int) " + I,
        "int type(long,int) " + A + "," + S, "int wipe() ", "int fault() ", "int build() " + A + "," + S,
        "int run(int) " + A, "long outputs() ", "boolean sorts() ", "int sorted() ", "int wrong(int) " + I,
        "int finishes(int) " + A, "boolean merges(int) " + I, "boolean chooses(int) " + A, "int off() ",
        "int routes() ", "int setting(int) " + A, "int token(int) " + I + "," + S, "int came(int) " + I,
        "int cameAnew(int) " + I, "boolean isStep() ", "int bad(int,int) " + I + "," + A,
        "long tells(int,int) " + I + "," + A, "int hidden(long) ", "int tests() ", "boolean bears() ",
        "int far(int,int) " + A, "int step(int,int) " + A, "int manyFar(int,int) " + A,
        "boolean ask(int,int) " + I + "," + A, "int left() ", "int needed() "
    };
    private static final String[] CONSTANTS = {
        "NONE=-1", "BUBBLE=0", "BRICK=1", "MERGE=2", "PASS=0", "CROSS=1", "TURN=2",
        "SWAPS=0", "CHANGES=1", "FLIPS=2", "BLOCKS=3"
    };
    private static final Path SOURCE = Path.of("src/main/java/Comparatory.java");

    public static void main(String[] args) throws Exception {
        constants();
        methods();
        classesInside();
        String code = withoutTexts(Files.readString(SOURCE));
        words(code);
        library(code);
        lengths(code);
        Due.end();
    }

    private static void constants() throws Exception {
        Set<String> found = new TreeSet<>();
        for (Field field : Comparatory.class.getDeclaredFields()) {
            if (Modifier.isPublic(field.getModifiers())) {
                Due.is("public constant", Modifier.isStatic(field.getModifiers()) && Modifier.isFinal(field.getModifiers()), true);
                found.add(field.getName() + "=" + field.getInt(null));
            } else {
                Due.is("private " + field, Modifier.isPrivate(field.getModifiers()), true);
            }
        }
        Due.is("the constants", found.toString(), new TreeSet<>(Arrays.asList(CONSTANTS)).toString());
    }

    private static void methods() {
        Class<?> house = Comparatory.class;
        Due.is("public and final", house.getModifiers(), Modifier.PUBLIC | Modifier.FINAL);
        Due.is("no class above", house.getSuperclass() == Object.class && house.getInterfaces().length == 0, true);
        Constructor<?>[] made = house.getDeclaredConstructors();
        Due.is("one constructor", made.length, 1);
        Due.is("public", Modifier.isPublic(made[0].getModifiers()) && made[0].getParameterCount() == 0, true);
        Set<String> found = new TreeSet<>();
        for (Method method : house.getDeclaredMethods()) {
            if (Modifier.isPublic(method.getModifiers())) {
                found.add(written(method));
            } else {
                Due.is("private " + method, Modifier.isPrivate(method.getModifiers()), true);
            }
        }
        Due.is("the face", found.toString(), new TreeSet<>(Arrays.asList(FACE)).toString());
    }

    private static String written(Method method) {
        Due.is("not static", Modifier.isStatic(method.getModifiers()), false);
        return method.getReturnType() + " " + method.getName() + "(" + names(method.getParameterTypes()) + ") "
                + names(method.getExceptionTypes());
    }

    private static String names(Class<?>[] types) {
        StringBuilder names = new StringBuilder();
        for (Class<?> type : types) {
            names.append(names.length() == 0 ? "" : ",").append(type.getSimpleName());
        }
        return names.toString();
    }

    private static void classesInside() {
        Set<String> face = new HashSet<>();
        for (String line : FACE) {
            face.add(line.replaceAll("^\\S+ (\\w+)\\(.*$", "$1"));
        }
        Due.is("names of the face", face.size(), FACE.length);
        Class<?>[] inside = Comparatory.class.getDeclaredClasses();
        Due.is("at most twelve classes", inside.length + 1 <= 12, true);
        for (Class<?> each : inside) {
            int is = each.getModifiers();
            Due.is(each + " is static and not public", Modifier.isStatic(is) && !Modifier.isPublic(is) && !Modifier.isProtected(is), true);
            ofItsOwn(each, face);
        }
        for (Method method : Comparatory.class.getDeclaredMethods()) {
            boolean isOther = !Modifier.isPublic(method.getModifiers()) && face.contains(method.getName());
            Due.is(method + " bears a public one's name", isOther, false);
        }
    }

    private static void ofItsOwn(Class<?> inside, Set<String> face) {
        int fields = 0;
        for (Field field : inside.getDeclaredFields()) {
            boolean isStatic = Modifier.isStatic(field.getModifiers());
            Due.is(field + " is final, if it is static", !isStatic || Modifier.isFinal(field.getModifiers()), true);
            fields += isStatic ? 0 : 1;
        }
        Due.is(inside + " has some twenty fields", fields <= 20, true);
        for (Method method : inside.getDeclaredMethods()) {
            Due.is(method + " has a name of its own", face.contains(method.getName()), false);
            Due.is(method + " takes at most seven", method.getParameterCount() <= 7, true);
        }
    }

    /** Comments and texts are taken out; lines stay where they are. */
    private static String withoutTexts(String source) {
        Matcher matcher = Pattern.compile("/\\*.*?\\*/|//[^\\n]*|\"[^\"\\n]*\"", Pattern.DOTALL).matcher(source);
        return matcher.replaceAll(found -> found.group().replaceAll("[^\\n]", ""));
    }

    private static void words(String code) {
        for (String word : new String[] {
            "import", "package", "try", "catch", "finally", "synchronized", "assert", "volatile", "native",
            "transient", "protected", "var", "yield", "instanceof", "float", "double", "System", "Object"}) {
            Due.is("the word " + word, Pattern.compile("\\b" + word + "\\b").matcher(code).find(), false);
        }
        Due.is("a lambda", code.contains("->"), false);
        Due.is("a method reference", code.contains("::"), false);
        Due.is("a sign beyond 127", code.chars().anyMatch(sign -> sign > 127), false);
        Due.is("static blocks", Pattern.compile("\\bstatic\\s*\\{").matcher(code).find(), false);
    }

    private static void library(String code) {
        List<String> functions = List.of("Math.max", "Math.min", "Math.abs", "Integer.bitCount", "Long.bitCount");
        Matcher calls = Pattern.compile("\\b(Math|Integer|Long|Arrays|String|Character)\\.\\w+").matcher(code);
        while (calls.find()) {
            Due.is("the library's " + calls.group(), functions.contains(calls.group()), true);
        }
        Set<String> own = new HashSet<>(List.of("Comparatory", "Math", "Integer", "Long", I, A, S));
        for (Class<?> inside : Comparatory.class.getDeclaredClasses()) {
            own.add(inside.getSimpleName());
        }
        Matcher names = Pattern.compile("\\b[A-Z]\\w*[a-z]\\w*\\b").matcher(code);
        while (names.find()) {
            Due.is("the name " + names.group(), own.contains(names.group()), true);
        }
        Matcher thrown = Pattern.compile("\\bthrow\\b(?! new (" + I + "|" + A + "|" + S + ")\\()").matcher(code);
        Due.is("another throw", thrown.find(), false);
    }

    private static void lengths(String code) {
        String[] lines = code.split("\n");
        int begun = -1;
        for (int i = 0; i < lines.length; i++) {
            if (lines[i].matches(" {4}( {4})?\\S.*\\)( throws [\\w, ]+)? \\{")) {
                begun = i;
            }
            if (begun >= 0 && lines[i].matches(" {4}( {4})?\\}")) {
                Due.is("a method of " + (i - begun + 1) + " lines at " + (begun + 1), i - begun + 1 <= 60, true);
                begun = -1;
            }
        }
    }
}
