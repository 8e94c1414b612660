import java.io.IOException;
import java.lang.reflect.Constructor;
import java.lang.reflect.Field;
import java.lang.reflect.Method;
import java.lang.reflect.Modifier;
import java.nio.file.Files;
import java.nio.file.Path;
import java.util.ArrayList;
import java.util.Arrays;
import java.util.List;
import java.util.Set;
import java.util.TreeSet;
import java.util.regex.Matcher;
import java.util.regex.Pattern;

/** The rules of ../shared/LANGUAGE.md that can be looked up in the text and in the class itself. */
public final class LanguageTest {
    private static final String[] FACE = {
        "int feed(int,int)", "int giving()", "int of(int,int)", "int rounds(int,int)", "int level(int,int,int)",
        "int listed(int,int,int)", "int takes(int,int,int)", "int instead(int,int)", "int run(int,int,int)",
        "int has(int,int)", "int left(int)", "int led(int,int,int)", "int ring(int)", "int way(int)", "int kindOf(int)",
        "long share(int,int,int,int)", "int stops(int)", "int rather(int,int,int,int)", "int envy(int,int)",
        "int wrongly(int,int,int,int)", "int gains(int,int,int)", "int told(int,int,int)", "int table(int,int,int)",
        "int bars(int)", "int parted(int,int,int)", "int order(int,int)", "int even()", "int evenIs(int)",
        "int swap(int,int)", "int years(int,int,int,int)", "int act(int,int,int)", "int trace(int)", "int keep(int,int)",
        "int row(int,int,int)", "int put(int,int,long)", "long element(int,int)", "int shift(int,int,int,int,int)",
        "int taken(int,int)", "int count(int)"};
    private static final String[] CONSTANTS = {"BAD", "BIG", "FULL", "NOT", "STATE", "VOID"};
    private static final String[] WORDS = {"throw", "throws", "try", "catch", "finally", "synchronized", "assert",
        "package", "protected", "volatile", "transient", "native", "Object", "Thread", "Random", "System.out", "System.err",
        "System.in", "System.nanoTime", "System.currentTimeMillis", "System.exit", "hashCode", "getClass", "String.format",
        "addExact", "multiplyExact", "subtractExact", "negateExact", "incrementExact", "decrementExact", "toIntExact"};
    private static final int MOST_LINES = 60, MOST_CLASSES = 12, MOST_FIELDS = 20, MOST_PARAMETERS = 7;
    private static int wrong = 0;

    private static void fault(String what) {
        wrong++;
        System.out.println(what);
    }

    public static void main(String[] args) throws IOException {
        Path file = Path.of(args.length > 0 ? args[0] : "src/main/java/TakenInTurns.java");
        String code = bare(Files.readString(file));
        for (String word : WORDS) {
            if (Pattern.compile("(?<![\\w.])" + Pattern.quote(word) + "\\b").matcher(code).find()
                || word.contains("Exact") && code.contains(word)) {
                fault("the word stands there: " + word);
            }
        }
        for (String sign : new String[] {"(?<!default|case [^\n]{0,80})->", "::"}) {
            if (Pattern.compile(sign).matcher(code).find()) {
                fault("the sign stands there: " + sign);
            }
        }
        for (Matcher m = Pattern.compile("import\\s+([^;]+);").matcher(code); m.find();) {
            if (!m.group(1).matches("java\\.util\\.(Arrays|ArrayList|List|Iterator)")) {
                fault("imported: " + m.group(1));
            }
        }
        for (Matcher m = Pattern.compile("\\b(Arrays|System)\\.(\\w+)").matcher(code); m.find();) {
            List<String> fine = List.of("Arrays.fill", "Arrays.copyOf", "Arrays.copyOfRange", "System.arraycopy");
            if (!fine.contains(m.group(1) + "." + m.group(2))) {
                fault("called: " + m.group());
            }
        }
        for (Matcher m = Pattern.compile("\\bclass\\s+(\\w+)").matcher(code); m.find();) {
            String ahead = code.substring(Math.max(0, m.start() - 30), m.start());
            if (!ahead.endsWith(m.group(1).equals("TakenInTurns") ? "public final " : "static final ") && !ahead.endsWith(" static ") && !ahead.endsWith(" static abstract ")) {
                fault("not declared as it should be: class " + m.group(1));
            }
        }
        checkLengths(code);
        checkFace();
        List<Class<?>> classes = new ArrayList<>(List.of(TakenInTurns.class));
        classes.addAll(Arrays.asList(TakenInTurns.class.getDeclaredClasses()));
        if (classes.size() > MOST_CLASSES) {
            fault(classes.size() + " classes");
        }
        classes.forEach(LanguageTest::checkClass);
        System.out.println(wrong == 0 ? "the language is kept to" : wrong + " faults of language");
        if (wrong != 0) {
            System.exit(1);
        }
    }

    private static String bare(String text) {
        return text.replaceAll("(?s)/\\*.*?\\*/", " ").replaceAll("//[^\n]*", " ");
    }

    private static void checkLengths(String code) {
        String[] lines = code.split("\n");
        int begun = -1;
        String indent = "";
        for (int i = 0; i < lines.length; i++) {
            Matcher m = Pattern.compile("^( {4}| {8})\\S[^;=]*\\) \\{$").matcher(lines[i]);
            if (begun < 0 && m.find()) {
                begun = i;
                indent = m.group(1);
            } else if (begun >= 0 && lines[i].equals(indent + "}")) {
                if (i - begun + 1 > MOST_LINES) {
                    fault("too long, from line " + (begun + 1) + ": " + lines[begun].trim());
                }
                begun = -1;
            }
        }
    }

    private static void checkFace() {
        Set<String> due = new TreeSet<>(Arrays.asList(FACE));
        Set<String> there = new TreeSet<>();
        for (Method method : TakenInTurns.class.getDeclaredMethods()) {
            if (!Modifier.isPrivate(method.getModifiers()) && !method.isSynthetic()) {
                StringBuilder b = new StringBuilder(method.getReturnType().getName()).append(' ').append(method.getName()).append('(');
                for (int i = 0; i < method.getParameterCount(); i++) {
                    b.append(i == 0 ? "" : ",").append(method.getParameterTypes()[i].getName());
                }
                there.add(b.append(')').toString());
                if (!Modifier.isPublic(method.getModifiers()) || Modifier.isStatic(method.getModifiers())) {
                    fault("not public, or static: " + method);
                }
            }
        }
        if (!due.equals(there)) {
            fault("the face is " + there);
        }
        Set<String> constants = new TreeSet<>();
        for (Field field : TakenInTurns.class.getDeclaredFields()) {
            if (!Modifier.isPrivate(field.getModifiers())) {
                constants.add(field.getName());
                int all = Modifier.PUBLIC | Modifier.STATIC | Modifier.FINAL;
                if (field.getModifiers() != all || field.getType() != int.class) {
                    fault("no constant: " + field);
                }
            }
        }
        if (!constants.equals(new TreeSet<>(Arrays.asList(CONSTANTS)))) {
            fault("the constants are " + constants);
        }
        Constructor<?>[] made = TakenInTurns.class.getDeclaredConstructors();
        if (made.length != 1 || made[0].getParameterCount() != 0 || !Modifier.isPublic(made[0].getModifiers())) {
            fault("the constructors are " + Arrays.toString(made));
        }
    }

    private static void checkClass(Class<?> some) {
        Set<String> open = new TreeSet<>();
        for (String line : FACE) {
            open.add(line.substring(line.indexOf(' ') + 1, line.indexOf('(')));
        }
        for (Method method : some.getDeclaredMethods()) {
            boolean ofFace = some == TakenInTurns.class && Modifier.isPublic(method.getModifiers());
            if (!ofFace && open.contains(method.getName())) {
                fault("named like a public one: " + method);
            }
            if (method.getParameterCount() > MOST_PARAMETERS) {
                fault("too many parameters: " + method);
            }
        }
        int fields = 0;
        for (Field field : some.getDeclaredFields()) {
            boolean fixed = Modifier.isStatic(field.getModifiers());
            fields += fixed ? 0 : 1;
            if (fixed && !Modifier.isFinal(field.getModifiers())) {
                fault("static, but not final: " + field);
            }
            Class<?> type = field.getType();
            if (type.isArray() && type.getComponentType().isArray()
                && !type.getComponentType().getComponentType().isPrimitive()) {
                fault("an array of more than it may be: " + field);
            }
        }
        if (fields > MOST_FIELDS) {
            fault(fields + " fields in " + some);
        }
    }
}
