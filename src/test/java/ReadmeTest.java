import java.io.ByteArrayOutputStream;
import java.io.IOException;
import java.lang.reflect.Method;
import java.lang.reflect.Modifier;
import java.net.URL;
import java.net.URLClassLoader;
import java.nio.charset.StandardCharsets;
import java.nio.file.Files;
import java.nio.file.Path;
import java.util.ArrayList;
import java.util.List;
import java.util.regex.Matcher;
import java.util.regex.Pattern;
import java.util.stream.Stream;
import javax.tools.ToolProvider;

/**
 * What README.md shows as a use of the class holds as it stands there: its pieces of Java are
 * compiled as they are, and each call answers what is written behind it.
 */
public final class ReadmeTest {
    private static final Path README = Path.of("README.md");
    private static final String MAKING = "Comparatory house = new Comparatory();";
    private static final Pattern CALL = Pattern.compile("(house\\.(\\w+)\\(.*?\\));(?: +// (.*))?");
    private static final Pattern ANSWER = Pattern.compile("(-?\\d+|true|false|'.'|throws \\w+)(: .*)?");

    /** A call with the answer written behind it; none for a call that answers nothing. */
    private static final class Shown {
        final int line;
        final String call;
        final String name;
        final String answer;

        Shown(int line, String call, String name, String answer) {
            this.line = line;
            this.call = call;
            this.name = name;
            this.answer = answer;
        }
    }

    public static void main(String[] args) throws Exception {
        List<List<Shown>> pieces = pieces(Files.readAllLines(README));
        Due.is("pieces of Java are there", pieces.size() > 0, true);
        everyCallIsShown(pieces);
        theAnswersHold(pieces);
        theTestsAreNamed(Files.readString(README));
        theScriptIsThere();
        Due.end();
    }

    private static List<List<Shown>> pieces(List<String> lines) {
        List<List<Shown>> pieces = new ArrayList<>();
        boolean isJava = false;
        for (int i = 0; i < lines.size(); i++) {
            String line = lines.get(i);
            if (line.startsWith("```")) {
                isJava = line.equals("```java");
                if (isJava) {
                    pieces.add(new ArrayList<>());
                    Due.is("line " + (i + 2) + " makes a house", lines.get(i + 1), MAKING);
                }
            } else if (isJava && !line.equals(MAKING)) {
                pieces.get(pieces.size() - 1).add(shown(i + 1, line));
            }
        }
        return pieces;
    }

    private static Shown shown(int number, String line) {
        Matcher call = CALL.matcher(line);
        if (!call.matches()) {
            Due.is("line " + number + ": " + line, "no call", "a call of a house");
            return new Shown(number, "house.mirror()", "", null);
        }
        String answer = call.group(3);
        if (answer != null) {
            Matcher told = ANSWER.matcher(answer);
            Due.is("line " + number + " tells an answer: " + answer, told.matches(), true);
            answer = told.matches() ? told.group(1) : answer;
        }
        return new Shown(number, call.group(1), call.group(2), answer);
    }

    /** "Calls of each kind with their answers": every one of the face, and every one that answers with its answer. */
    private static void everyCallIsShown(List<List<Shown>> pieces) {
        int calls = 0;
        for (Method method : Comparatory.class.getDeclaredMethods()) {
            if (!Modifier.isPublic(method.getModifiers())) {
                continue;
            }
            calls++;
            boolean answers = method.getReturnType() != void.class;
            int ordinary = 0;
            for (List<Shown> piece : pieces) {
                for (Shown each : piece) {
                    if (each.name.equals(method.getName())) {
                        Due.is("line " + each.line + " has an answer", each.answer != null, answers);
                        ordinary += each.answer == null || !each.answer.startsWith("throws") ? 1 : 0;
                    }
                }
            }
            Due.is(method.getName() + " is shown", ordinary > 0, true);
        }
        Due.is("calls of the face", calls, 40);
    }

    private static void theAnswersHold(List<List<Shown>> pieces) throws Exception {
        Path folder = Files.createTempDirectory("readme");
        try {
            Path source = folder.resolve("Piece.java");
            Files.writeString(source, sourceOf(pieces));
            ByteArrayOutputStream said = new ByteArrayOutputStream();
            int failed = ToolProvider.getSystemJavaCompiler().run(null, said, said,
                    "-encoding", "UTF-8", "-d", folder.toString(),
                    "-classpath", System.getProperty("java.class.path"), source.toString());
            Due.is("compiles: " + said.toString(StandardCharsets.UTF_8), failed, 0);
            if (failed == 0) {
                compare(pieces, folder);
            }
        } finally {
            delete(folder);
        }
    }

    private static void compare(List<List<Shown>> pieces, Path folder) throws Exception {
        URL[] there = {folder.toUri().toURL()};
        try (URLClassLoader loader = new URLClassLoader(there, ReadmeTest.class.getClassLoader())) {
            Class<?> piece = loader.loadClass("Piece");
            for (int i = 0; i < pieces.size(); i++) {
                List<?> told = (List<?>) piece.getMethod("piece" + i).invoke(null);
                List<Shown> shown = pieces.get(i);
                Due.is("answers of the piece " + i, told.size(), shown.size());
                Due.is("the piece " + i + " stays within 512 calls", shown.size() <= 512, true);
                for (int j = 0; j < told.size(); j++) {
                    Shown each = shown.get(j);
                    String due = each.answer == null ? "nothing" : each.answer;
                    Due.is("README.md, line " + each.line + ": " + each.call, told.get(j).toString(), due);
                }
            }
        }
    }

    /** Each piece as a function of its own, in which the answers are gathered. */
    private static String sourceOf(List<List<Shown>> pieces) {
        StringBuilder source = new StringBuilder();
        source.append("import java.util.*;\npublic final class Piece {\n");
        source.append("static String told(char answer) { return \"'\" + answer + \"'\"; }\n");
        source.append("static String told(long answer) { return Long.toString(answer); }\n");
        source.append("static String told(boolean answer) { return Boolean.toString(answer); }\n");
        for (int i = 0; i < pieces.size(); i++) {
            source.append("public static List<String> piece").append(i).append("() {\n");
            source.append("List<String> told = new ArrayList<>();\n").append(MAKING).append('\n');
            for (Shown each : pieces.get(i)) {
                String asked = each.answer == null
                        ? each.call + "; told.add(\"nothing\");" : "told.add(told(" + each.call + "));";
                source.append("try { ").append(asked).append(" } catch (RuntimeException e) {");
                source.append(" told.add(\"throws \" + e.getClass().getSimpleName()); }\n");
            }
            source.append("return told;\n}\n");
        }
        return source.append("}\n").toString();
    }

    private static void delete(Path folder) throws IOException {
        try (Stream<Path> files = Files.list(folder)) {
            for (Path file : (Iterable<Path>) files::iterator) {
                Files.delete(file);
            }
        }
        Files.delete(folder);
    }

    /** "How to run its tests": each test is named, and no other one. */
    private static void theTestsAreNamed(String readme) throws IOException {
        try (Stream<Path> files = Files.list(Path.of("src/test/java"))) {
            for (Path file : (Iterable<Path>) files::iterator) {
                String name = file.getFileName().toString();
                if (name.endsWith("Test.java")) {
                    String test = name.substring(0, name.length() - ".java".length());
                    Due.is(test + " is named", readme.contains("`" + test + "`"), true);
                }
            }
        }
        Matcher named = Pattern.compile("`(\\w+Test)`").matcher(readme);
        while (named.find()) {
            Path test = Path.of("src/test/java", named.group(1) + ".java");
            Due.is(test + " is there", Files.exists(test), true);
        }
        Matcher helpers = Pattern.compile("`(helpers/\\w+\\.java)`").matcher(readme);
        while (helpers.find()) {
            Path helper = Path.of("src/test/java", helpers.group(1));
            Due.is(helper + " is there", Files.exists(helper), true);
        }
    }

    private static void theScriptIsThere() throws IOException {
        Due.is("the script is shown", Files.readString(README).contains("\n    .ci/run\n"), true);
        Due.is("it can be run", Files.isExecutable(Path.of(".ci/run")), true);
    }
}
