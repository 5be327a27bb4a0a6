import java.io.IOException;
import java.lang.reflect.Field;
import java.lang.reflect.Method;
import java.lang.reflect.Modifier;
import java.nio.charset.StandardCharsets;
import java.nio.file.Files;
import java.nio.file.Path;
import java.util.Arrays;
import java.util.Map;
import java.util.Set;
import java.util.TreeMap;
import java.util.TreeSet;
import java.util.regex.Matcher;
import java.util.regex.Pattern;

/** The form that ../shared/LANGUAGE.md asks of the class, as far as a look at its source and its face can tell. */
public final class FormTest {
    private static final String[] FACE = {"int feed(int,int,int,int,int)", "int text(int)", "int fault(int)",
        "int named(int,int)", "int look(int,int)", "int wants(int,int)", "int likes(int,int)", "int town(int,int)",
        "int at(int,int)", "long worth(int,int,boolean)", "long asked(int,int)", "long gain(int,int,int)",
        "boolean go(int,int,int)", "int first(int)", "int would(int,int,int)", "int party(int,int)", "int goings(int)",
        "int ring(int)", "int all(int)", "int held(int,int,int)", "long total()", "long lost(int)", "boolean best()",
        "boolean extra(int,int)", "boolean bind(int,boolean)", "int edge(int,int)", "int empties(int)", "int met(int)",
        "int reform(int,int,int,int)", "long split(int,int,int)", "int out(int,int,int)", "int months(int,int)",
        "int tied()", "int odds(int,int,int,int)", "int undo()", "int keep()", "int back()", "int count(int)"};

    public static void main(String[] args) throws IOException {
        Path path = Path.of("src/main/java/FloatTowns.java");
        String source = new String(Files.readAllBytes(path), StandardCharsets.ISO_8859_1);
        String code = source.replaceAll("(?s)/\\*.*?\\*/", "").replaceAll("//[^\n]*", "");
        face();
        words(source, code);
        makes(code);
        methods(code);
        Check.end("FormTest");
    }

    private static void face() {
        Set<String> face = new TreeSet<>(Arrays.asList(FACE));
        Set<String> names = new TreeSet<>();
        for (String method : FACE) {
            names.add(method.replaceAll(".* |\\(.*", ""));
        }
        Set<String> found = new TreeSet<>();
        for (Method m : FloatTowns.class.getDeclaredMethods()) {
            String signature = m.getReturnType() + " " + m.getName()
                + Arrays.toString(m.getParameterTypes()).replace("[", "(").replace("]", ")").replace(", ", ",");
            if (Modifier.isPublic(m.getModifiers())) {
                found.add(signature);
            } else if (!m.isSynthetic()) {
                Check.due(signature + " is private", Modifier.isPrivate(m.getModifiers()), true);
                Check.due(signature + " bears no name of the face", names.contains(m.getName()), false);
            }
        }
        Check.due("the face " + found, found.equals(face), true);
        for (Field f : FloatTowns.class.getDeclaredFields()) {
            boolean open = f.getName().equals("NONE") || f.getName().equals("SPENT");
            Check.due(f.getName() + " public", Modifier.isPublic(f.getModifiers()), open);
            Check.due(f.getName() + " private", Modifier.isPrivate(f.getModifiers()), !open);
            fieldIsFine(f);
        }
        Check.due("classes", FloatTowns.class.getDeclaredClasses().length <= 12, true);
        for (Class<?> c : FloatTowns.class.getDeclaredClasses()) {
            Check.due(c + " is static", Modifier.isStatic(c.getModifiers()), true);
            Check.due(c + " is not public", Modifier.isPublic(c.getModifiers()), false);
            int own = 0;
            for (Field f : c.getDeclaredFields()) {
                own += Modifier.isStatic(f.getModifiers()) ? 0 : 1;
                fieldIsFine(f);
            }
            Check.due(c + " has few fields: " + own, own <= 20, true);
            for (Method m : c.getDeclaredMethods()) {
                Check.due(c + " " + m.getName() + " is no name of the face", names.contains(m.getName()), false);
            }
        }
        Check.due("one constructor", FloatTowns.class.getConstructors().length, 1);
    }

    private static void fieldIsFine(Field f) {
        boolean shared = Modifier.isStatic(f.getModifiers());
        Check.due(f + " is final if static", !shared || Modifier.isFinal(f.getModifiers()), true);
        Check.due(f + " is a constant if static",
            !shared || f.getType().isPrimitive() || f.getType() == String.class, true);
    }

    private static void words(String source, String code) {
        for (int i = 0; i < source.length(); i++) {
            if (source.charAt(i) > 126) {
                Check.due("sign " + (int) source.charAt(i) + " at " + i, source.charAt(i), 0);
            }
        }
        String[] none = {"\\bpackage\\b", "->", "::", "\\bcatch\\b", "\\btry\\b", "\\bfinally\\b", "\\bsynchronized\\b",
            "\\bassert\\b", "\\bvar\\b", "\\bfloat\\s+\\w+\\s*[;=(]", "\\bdouble\\b", "\\bSystem\\.(?!arraycopy)", "\\w+Exact\\b",
            "\"\\s*\\+", "\\+\\s*\"", "\\binstanceof\\b", "\\benum\\b", "\\.equals\\(", "\\bhashCode\\b", "\\btoString\\b",
            "\\bThread\\b", "\\brecord\\b\\s+\\w+\\s*\\(", "while \\(true\\)", "for \\(;;\\)", "\\bRandom\\b"};
        for (String word : none) {
            Matcher m = Pattern.compile(word).matcher(code);
            Check.due("no " + word, m.find(), false);
        }
        Matcher imports = Pattern.compile("import ([^;]*);").matcher(code);
        Set<String> found = new TreeSet<>();
        while (imports.find()) {
            found.add(imports.group(1));
        }
        Check.due("imports " + found,
            found.equals(new TreeSet<>(Arrays.asList("java.util.Arrays", "java.util.NoSuchElementException"))), true);
        Matcher library = Pattern.compile("\\b(Math|Arrays|Integer|Long|System)\\.(\\w+)").matcher(code);
        Set<String> allowed = new TreeSet<>(Arrays.asList("Math.max", "Math.min", "Math.abs", "Arrays.fill",
            "System.arraycopy", "Long.MIN_VALUE"));
        while (library.find()) {
            Check.due(library.group() + " is of the library's part", allowed.contains(library.group()), true);
        }
    }

    /** Objects are made in fields and constructors alone, but for what look() throws. */
    private static void makes(String code) {
        Matcher m = Pattern.compile("(?m)^(.*)\\bnew (\\w+)").matcher(code);
        int thrown = 0;
        while (m.find()) {
            boolean exception = m.group(1).trim().equals("throw");
            thrown += exception ? 1 : 0;
            boolean field = m.group(1).matches("\\s+(private )?final [\\w\\[\\]]+ \\w+ = ");
            boolean inConstructor = m.group(1).matches("\\s+\\w+(\\[i\\])? = ");
            Check.due("made: " + m.group(), exception || field || inConstructor, true);
        }
        Check.due("exceptions", thrown, 2);
    }

    /** No method has more than seven parameters or some sixty lines, and none calls itself by its name. */
    private static void methods(String code) {
        Matcher m = Pattern.compile("(?m)^( {4}| {8})((?:public |private |static |final )*)([\\w\\[\\]]+ )?(\\w+)\\(([^)]*)\\)[^;{]*\\{")
            .matcher(code);
        int found = 0;
        Map<String, String> bodies = new TreeMap<>();
        while (m.find()) {
            String end = "\n" + m.group(1) + "}";
            int close = code.indexOf(end, m.end());
            String body = code.substring(m.end(), Math.max(m.end(), close));
            found++;
            int lines = body.split("\n").length;
            Check.due(m.group(4) + " has few lines: " + lines, lines <= 60, true);
            int parameters = m.group(5).isBlank() ? 0 : m.group(5).split(",").length;
            Check.due(m.group(4) + " has few parameters", parameters <= 7, true);
            boolean itself = Pattern.compile("(?<![.\\w])" + m.group(4) + "\\(").matcher(body).find();
            Check.due(m.group(4) + " calls not itself", itself, false);
            // methods of one name count as one, which makes ways longer at most
            bodies.merge(m.group(4), body, String::concat);
        }
        Check.due("methods found: " + found, found > 150, true);
        for (String name : bodies.keySet()) {
            int deep = depth(name, bodies, 0);
            Check.due(name + " goes deep: " + deep, deep <= 8, true);
        }
    }

    /** How many calls stand open at most in a call of a method, the library's one too. */
    private static int depth(String name, Map<String, String> bodies, int open) {
        int deepest = 0;
        Matcher m = Pattern.compile("(?<!new )\\b(\\w+)\\(").matcher(bodies.get(name));
        while (m.find() && open < 20) {
            if (bodies.containsKey(m.group(1))) {
                deepest = Math.max(deepest, depth(m.group(1), bodies, open + 1));
            } else if (!m.group(1).matches("if|for|while|switch|return")) {
                deepest = Math.max(deepest, 1);
            }
        }
        return deepest + 1;
    }
}
