import java.lang.reflect.Constructor;
import java.lang.reflect.Field;
import java.lang.reflect.Method;
import java.lang.reflect.Modifier;
import java.nio.file.Files;
import java.nio.file.Path;
import java.util.List;
import java.util.Map;
import java.util.regex.Matcher;
import java.util.regex.Pattern;

/** The public face of the document, and the rules of LANGUAGE.md that can be seen without running. */
public final class FaceTest {
    private static final Map<String, Integer> FACE = Map.ofEntries(
        Map.entry("feed", 1), Map.entry("end", 1), Map.entry("text", 0), Map.entry("fault", 0), Map.entry("rule", 1),
        Map.entry("joint", 2), Map.entry("out", 2), Map.entry("at", 2), Map.entry("beam", 2), Map.entry("load", 2),
        Map.entry("moment", 2), Map.entry("share", 2), Map.entry("rank", 1), Map.entry("next", 1),
        Map.entry("step", 1), Map.entry("sweep", 2), Map.entry("begin", 0), Map.entry("couple", 2),
        Map.entry("hold", 2), Map.entry("stiffen", 2), Map.entry("put", 3), Map.entry("lift", 1),
        Map.entry("fall", 2), Map.entry("keep", 1), Map.entry("back", 1), Map.entry("sheet", 3), Map.entry("lay", 3),
        Map.entry("read", 4), Map.entry("torn", 0), Map.entry("count", 1));
    private static final Map<String, Integer> CONSTANTS =
        Map.of("BAD", -1, "STATE", -2, "FULL", -3, "NONE", -4, "NOTHING", 2000000000);

    public static void main(String[] args) throws Exception {
        face();
        constants();
        classesInside();
        source(args.length > 0 ? args[0] : "src/main/java/JointMoments.java");
        Check.finish();
    }

    private static void face() {
        Class<?> c = JointMoments.class;
        Check.that("public and final", Modifier.isPublic(c.getModifiers()) && Modifier.isFinal(c.getModifiers()));
        int open = 0;
        for (Method m : c.getDeclaredMethods()) {
            if (Modifier.isPrivate(m.getModifiers())) {
                Check.that("private " + m.getName() + " bears no public name", !FACE.containsKey(m.getName()));
                continue;
            }
            open++;
            Check.that("method " + m, Modifier.isPublic(m.getModifiers()) && m.getReturnType() == int.class
                && FACE.getOrDefault(m.getName(), -1) == m.getParameterCount());
            for (Class<?> parameter : m.getParameterTypes()) {
                Check.that("parameter of " + m, parameter == int.class);
            }
        }
        Check.due("methods of the face", open, FACE.size());
        Constructor<?>[] made = c.getDeclaredConstructors();
        Check.due("constructors", made.length, 1);
        Check.that("constructor", Modifier.isPublic(made[0].getModifiers()) && made[0].getParameterCount() == 0);
    }

    private static void constants() throws Exception {
        for (Field f : JointMoments.class.getDeclaredFields()) {
            if (!Modifier.isPrivate(f.getModifiers())) {
                Check.due("constant " + f.getName(), f.getInt(null), CONSTANTS.getOrDefault(f.getName(), 0));
            }
            boolean isStatic = Modifier.isStatic(f.getModifiers());
            Check.that("static field " + f, !isStatic || Modifier.isFinal(f.getModifiers()));
        }
        for (String name : CONSTANTS.keySet()) {
            JointMoments.class.getField(name);
        }
    }

    private static void classesInside() {
        Class<?>[] inside = JointMoments.class.getDeclaredClasses();
        Check.that("classes", inside.length <= 11);
        for (Class<?> c : inside) {
            Check.that("static " + c, Modifier.isStatic(c.getModifiers()) && !Modifier.isPublic(c.getModifiers()));
            int fields = 0;
            for (Field f : c.getDeclaredFields()) {
                fields += Modifier.isStatic(f.getModifiers()) ? 0 : 1;
            }
            Check.that("fields of " + c, fields <= 20);
            // Rule 12: a constructor that is given nothing is handed nothing of an object that is being made.
            for (Constructor<?> made : c.getDeclaredConstructors()) {
                Check.due("parameters of " + made, made.getParameterCount(), 0);
            }
            for (Method m : c.getDeclaredMethods()) {
                Check.that("parameters of " + m, m.getParameterCount() <= 7);
                Check.that(m + " bears no public name", !FACE.containsKey(m.getName()));
            }
        }
    }

    private static void source(String path) throws Exception {
        List<String> lines = Files.readAllLines(Path.of(path));
        String bare = String.join("\n", lines).replaceAll("(?s)/\\*.*?\\*/", "").replaceAll("//[^\n]*", "")
            .replaceAll("\"[^\"\n]*\"", "\"\"").replaceAll("(case [^\n]*|default) ->", "");
        String[] forbidden = {
            "\\bthrow\\b", "\\btry\\b", "\\bcatch\\b", "\\bsynchronized\\b", "\\bassert\\b", "->", "::",
            "\\bpackage\\b", "\\w+Exact\\b", "static\\s*\\{", "\\bhashCode\\b", "\"\"\\s*\\+", "\\+\\s*\"\"",
        };
        for (String word : forbidden) {
            Check.that("no " + word, !Pattern.compile(word).matcher(bare).find());
        }
        all(bare, "import ([^;]*);", "java\\.util\\.(Arrays|ArrayList|List|Iterator)|java\\.lang\\.Iterable");
        all(bare, "\\b((?:System|Arrays|List)\\.\\w+)", "System.arraycopy|Arrays.(copyOf|copyOfRange|fill)|List.of");
        shortMethods(lines);
    }

    private static void all(String source, String found, String allowed) {
        Matcher matcher = Pattern.compile(found).matcher(source);
        while (matcher.find()) {
            Check.that("'" + matcher.group(1) + "' as LANGUAGE.md has it", matcher.group(1).matches(allowed));
        }
    }

    private static void shortMethods(List<String> lines) {
        int from = 0;
        for (int i = 0; i < lines.size(); i++) {
            if (lines.get(i).matches("( {4}| {8})(public |private |static |final )*[\\w\\[\\]]+ ?\\w*\\(.*\\) \\{")) {
                from = i;
            }
            if (lines.get(i).matches("( {4}| {8})\\}")) {
                boolean isClass = lines.get(from).contains(" class ");
                Check.that("length of the method in line " + (from + 1), isClass || i - from < 60
                    || !lines.get(from).matches(".*\\) \\{"));
                from = i;
            }
        }
    }
}
