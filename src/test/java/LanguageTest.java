import java.io.IOException;
import java.lang.reflect.Constructor;
import java.lang.reflect.Field;
import java.lang.reflect.Method;
import java.lang.reflect.Modifier;
import java.nio.file.Files;
import java.nio.file.Path;
import java.util.Arrays;
import java.util.TreeSet;
import java.util.regex.Matcher;
import java.util.regex.Pattern;

/** The rules of LANGUAGE.md that can be seen from the class and its source (the first argument is its path). */
public final class LanguageTest {
    private static final String FACE = "calm() comes(int,int,int) drift(int) fault() feed(int) gate(int,int) goBack(int) keep(int) "
        + "queue(int,int,int) resolved(int,int) run(int) seed(int) set(int,int,int) step() tear() told(int) undo(int) "
        + "wave(int,int,int) wire(int,int) wires() write(int,int)";
    private static final String[] FORBIDDEN = {"throw", "throws", "try", "catch", "finally", "synchronized", "assert", "import", "package",
        "Object", "var", "instanceof", "volatile", "native", "Thread", "Random", "protected", "yield", "Integer", "Long", "HashMap"};
    /** Those of whole numbers alone; Math.random would be a source of chance. */
    private static final String MATH = " max min abs floorDiv floorMod ";
    private static final int MOST_LINES = 60;
    private static final int MOST_PARAMETERS = 7;
    private static final int MOST_CLASSES = 12;
    private static final int MOST_FIELDS = 20;

    public static void main(String[] args) throws IOException {
        face();
        classesInside();
        source(args.length > 0 ? args[0] : "src/main/java/DeltaCycles.java");
        Check.end("LanguageTest");
    }

    private static void face() {
        Class<?> c = DeltaCycles.class;
        Check.holds("public and final", Modifier.isPublic(c.getModifiers()) && Modifier.isFinal(c.getModifiers()));
        TreeSet<String> found = new TreeSet<>();
        for (Method m : c.getDeclaredMethods()) {
            if (Modifier.isPrivate(m.getModifiers())) {
                continue;
            }
            Check.holds(m + " is public, not static, answers int", m.getModifiers() == Modifier.PUBLIC && m.getReturnType() == int.class);
            found.add(signature(m));
        }
        Check.holds("the methods are the document's: " + found, String.join(" ", found).equals(FACE));
        Constructor<?>[] constructors = c.getDeclaredConstructors();
        Check.due("constructors", constructors.length, 1);
        Check.holds("the constructor is public and takes nothing",
            constructors[0].getModifiers() == Modifier.PUBLIC && constructors[0].getParameterCount() == 0);
        TreeSet<String> constants = new TreeSet<>();
        for (Field f : c.getDeclaredFields()) {
            if (!Modifier.isPrivate(f.getModifiers())) {
                constants.add(f.getName());
                Check.holds(f + " is a public constant",
                    f.getModifiers() == (Modifier.PUBLIC | Modifier.STATIC | Modifier.FINAL) && f.getType() == int.class);
            }
        }
        Check.holds("the constants are the document's", constants.toString().equals("[FULL, NONE, NOT, OUTSIDE, UNKNOWN]"));
    }

    private static String signature(Method m) {
        StringBuilder s = new StringBuilder(m.getName()).append('(');
        for (Class<?> p : m.getParameterTypes()) {
            s.append(s.charAt(s.length() - 1) == '(' ? "" : ",").append(p.getName());
        }
        return s.append(')').toString();
    }

    private static void classesInside() {
        Class<?>[] inside = DeltaCycles.class.getDeclaredClasses();
        Check.holds("classes of the file", inside.length + 1 <= MOST_CLASSES);
        fields(DeltaCycles.class);
        TreeSet<String> publicNames = new TreeSet<>();
        for (String s : FACE.split(" ")) {
            publicNames.add(s.substring(0, s.indexOf('(')));
        }
        for (Class<?> c : inside) {
            int m = c.getModifiers();
            Check.holds(c + " is static and not public", Modifier.isStatic(m) && !Modifier.isPublic(m) && !Modifier.isProtected(m));
            fields(c);
            for (Method method : c.getDeclaredMethods()) {
                Check.holds(method + " bears a name of its own", !publicNames.contains(method.getName()));
                Check.holds(method + " has few parameters", method.getParameterCount() <= MOST_PARAMETERS);
            }
        }
    }

    private static void fields(Class<?> c) {
        int own = 0;
        for (Field f : c.getDeclaredFields()) {
            if (Modifier.isStatic(f.getModifiers())) {
                Class<?> t = f.getType();
                Check.holds(f + " is a constant", Modifier.isFinal(f.getModifiers()) && (t == int.class || t == long.class));
            } else {
                own++;
            }
        }
        Check.holds("fields of " + c, own <= MOST_FIELDS);
    }

    private static void source(String path) throws IOException {
        String text = Files.readString(Path.of(path));
        Check.holds("letters 1 to 127 alone", text.chars().allMatch(ch -> ch > 0 && ch < 128));
        String bare = text.replaceAll("(?s)/\\*.*?\\*/", " ").replaceAll("//[^\n]*", " ").replaceAll("'[^']*'", "0");
        for (String word : FORBIDDEN) {
            Check.holds("no '" + word + "'", !Pattern.compile("\\b" + word + "\\b").matcher(bare).find());
        }
        Check.holds("no lambda, no method reference", !bare.contains("->") && !bare.contains("::"));
        Check.holds("no text", !bare.contains("\""));
        Matcher system = Pattern.compile("\\bSystem\\.(\\w+)").matcher(bare);
        while (system.find()) {
            Check.holds("System." + system.group(1), system.group(1).equals("arraycopy"));
        }
        Matcher math = Pattern.compile("\\bMath\\.(\\w+)").matcher(bare);
        while (math.find()) {
            Check.holds("Math." + math.group(1), MATH.contains(" " + math.group(1) + " "));
        }
        methodsAreShort(text);
    }

    /** A method stands four or eight blanks in and ends at a bracket as far in. */
    private static void methodsAreShort(String text) {
        String[] lines = text.split("\n");
        int methods = 0;
        for (int i = 0; i < lines.length; i++) {
            Matcher m = Pattern.compile("^(    |        )(?! )[^/*=]*\\) \\{$").matcher(lines[i]);
            if (!m.find()) {
                continue;
            }
            String end = m.group(1) + "}";
            int j = i;
            while (j < lines.length && !lines[j].equals(end)) {
                j++;
            }
            methods++;
            Check.holds(lines[i].trim() + " is short", j - i < MOST_LINES);
        }
        int declared = Arrays.stream(DeltaCycles.class.getDeclaredClasses()).mapToInt(c -> c.getDeclaredMethods().length).sum()
            + DeltaCycles.class.getDeclaredMethods().length;
        Check.holds("all methods were seen", methods >= declared);
    }
}
