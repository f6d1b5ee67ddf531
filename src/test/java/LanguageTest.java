import java.io.IOException;
import java.lang.reflect.Constructor;
import java.lang.reflect.Field;
import java.lang.reflect.Method;
import java.lang.reflect.Modifier;
import java.nio.file.Files;
import java.nio.file.Path;
import java.util.ArrayList;
import java.util.List;
import java.util.Set;
import java.util.TreeSet;
import java.util.regex.Matcher;
import java.util.regex.Pattern;

/** The rules of LANGUAGE.md that a reading of the source, or of the class, can see. */
public final class LanguageTest {
    private static final String[] FORBIDDEN = {
        "\\bthrow\\b", "\\bthrows\\b", "\\btry\\b", "\\bcatch\\b", "\\bsynchronized\\b", "\\bassert\\b", "->", "::",
        "\\bpackage\\b", "\\bprotected\\b", "\\bdouble\\b", "\\bfloat\\b", "\\bThread\\b", "\\bRandom\\b", "Exact\\b",
        "\\bhashCode\\b", "\\bvar\\b", "static \\{"};
    private static final Set<String> LIBRARY = Set.of("System.arraycopy", "Arrays.fill", "Math.min", "Math.max");
    private static final String FACE = """
            answers(int) apart(int,int) clear() count(int) draws(int) elements(int) end(int)
            feed(int,int,int,int,int) game() games(int,int) genus(int) hand(int) keep(int) line(int)
            losers(int,int) move(int,int,int) moves(int) next(int,int,int) nimber(int) odd(int)
            option(int,int,int) pairs(int) period(int) place(int) power(int,int,int) proved(int) put(int)
            reply() sets(int,int) simplest(int) state(int) stays(int) times(int,int,int) undo() wild(int)
            word(int,int,int)""";

    private static final List<String> WRONG = new ArrayList<>();

    public static void main(String[] args) throws IOException {
        Path source = Path.of(args.length > 0 ? args[0] : ".", "src/main/java/LastLoses.java");
        String code = withoutTexts(Files.readString(source));
        forbidden(code);
        library(code);
        face();
        classesInside();
        lengths(code);
        for (String wrong : WRONG) {
            System.out.println(wrong);
        }
        System.out.println("LanguageTest: " + WRONG.size() + " wrong");
        System.exit(WRONG.isEmpty() ? 0 : 1);
    }

    private static void demand(boolean holds, String what) {
        if (!holds) {
            WRONG.add(what);
        }
    }

    private static String withoutTexts(String source) {
        return source.replaceAll("(?s)/\\*.*?\\*/", "").replaceAll("//[^\n]*", "").replaceAll("\"[^\"\n]*\"", "\"\"");
    }

    private static void forbidden(String code) {
        for (String word : FORBIDDEN) {
            Matcher matcher = Pattern.compile(word).matcher(code);
            demand(!matcher.find(), "the source has " + word);
        }
        demand(code.chars().allMatch(sign -> sign < 127), "a sign beyond 126");
    }

    private static void library(String code) {
        Matcher calls = Pattern.compile("\\b(System|Arrays|Math|Integer|Long|String)\\.\\w+").matcher(code);
        while (calls.find()) {
            demand(LIBRARY.contains(calls.group()), "not looked up in LANGUAGE.md: " + calls.group());
        }
        Matcher imports = Pattern.compile("import ([^;]+);").matcher(code);
        while (imports.find()) {
            demand(imports.group(1).equals("java.util.Arrays"), "import of " + imports.group(1));
        }
    }

    private static void face() {
        Class<?> type = LastLoses.class;
        demand(Modifier.isPublic(type.getModifiers()) && Modifier.isFinal(type.getModifiers()), "public and final");
        Set<String> seen = new TreeSet<>();
        for (Method method : type.getDeclaredMethods()) {
            if (Modifier.isPrivate(method.getModifiers()) || method.isSynthetic()) {
                continue;
            }
            demand(Modifier.isPublic(method.getModifiers()), "a member that is not public: " + method.getName());
            demand(method.getReturnType() == int.class, "an answer that is no int: " + method.getName());
            StringBuilder told = new StringBuilder();
            for (Class<?> parameter : method.getParameterTypes()) {
                told.append(told.length() == 0 ? "" : ",").append(parameter.getName());
            }
            seen.add(method.getName() + "(" + told + ")");
        }
        demand(seen.equals(new TreeSet<>(List.of(FACE.trim().split("\\s+")))), "the face is " + seen);
        for (Field field : type.getDeclaredFields()) {
            boolean isNone = field.getName().equals("NONE") && Modifier.isPublic(field.getModifiers());
            demand(isNone || Modifier.isPrivate(field.getModifiers()), "a field that is seen: " + field.getName());
            demand(!Modifier.isStatic(field.getModifiers()) || Modifier.isFinal(field.getModifiers()),
                    "a static field that is not final: " + field.getName());
        }
        Constructor<?>[] constructors = type.getDeclaredConstructors();
        demand(constructors.length == 1 && constructors[0].getParameterCount() == 0, "one constructor");
    }

    private static void classesInside() {
        Set<String> face = new TreeSet<>();
        for (Method method : LastLoses.class.getMethods()) {
            face.add(method.getName());
        }
        Class<?>[] inside = LastLoses.class.getDeclaredClasses();
        demand(inside.length < 12, inside.length + " classes inside");
        for (Class<?> type : inside) {
            demand(Modifier.isStatic(type.getModifiers()), type + " is not static");
            int fields = 0;
            for (Field field : type.getDeclaredFields()) {
                fields += Modifier.isStatic(field.getModifiers()) ? 0 : 1;
                demand(!Modifier.isStatic(field.getModifiers()) || Modifier.isFinal(field.getModifiers()),
                        type + " has a static field that is not final: " + field.getName());
            }
            demand(fields <= 20, type + " has " + fields + " fields");
            for (Method method : type.getDeclaredMethods()) {
                demand(!face.contains(method.getName()), type + " has a method named as one of the face: " + method);
                demand(method.getParameterCount() <= 7, "too many parameters: " + method);
            }
        }
    }

    private static void lengths(String code) {
        String name = "?";
        int begun = -1;
        String[] lines = code.split("\n");
        for (int i = 0; i < lines.length; i++) {
            Matcher head = Pattern.compile("^ {4}(?: {4})?(?:\\w+ )*\\S+ ?(\\w+)\\([^)]*\\) \\{$").matcher(lines[i]);
            if (head.find()) {
                name = lines[i].trim();
                begun = i;
            } else if (begun >= 0 && lines[i].matches("^ {4}(?: {4})?\\}$")) {
                demand(i - begun < 60, name + " has " + (i - begun) + " lines");
                begun = -1;
            }
        }
    }
}
