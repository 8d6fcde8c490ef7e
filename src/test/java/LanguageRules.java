import java.io.IOException;
import java.lang.reflect.Constructor;
import java.lang.reflect.Field;
import java.lang.reflect.Method;
import java.lang.reflect.Modifier;
import java.nio.file.Files;
import java.nio.file.Path;
import java.util.ArrayList;
import java.util.Arrays;
import java.util.List;
import java.util.TreeSet;
import java.util.regex.Matcher;
import java.util.regex.Pattern;

/** What of LANGUAGE.md can be seen from the source (its path is the argument) and from the class itself. */
public final class LanguageRules {
    private static final String[] FACE = {
        "int write(int)", "int wipe()", "int fault()", "int island()", "int person(int,int)", "int fetch(int)",
        "int send(int)", "int say(int)", "int name(int,int,int)", "int undo()", "int comesTo(int,int,int)",
        "int fewest(int,boolean)", "int can(int)", "int toFetch(int,boolean)", "int needed()",
        "int naming(int,boolean)", "int spoken(int,int,int)", "int quarrel(int,int,boolean)",
        "int share(int,int,boolean)", "int rests(int,int,int,int,int)", "int chance(int,int,boolean)",
        "long seed(long)", "int nights(int)", "int keep(int)", "int again(int)", "int count(int)"};
    private static final String[] CONSTANTS = {"UNKNOWN -1", "OUTSIDE -2", "STATE -3", "FULL -4", "NONE -9"};
    private static final String[] FORBIDDEN = {"\\bthrow\\b", "\\btry\\b", "\\bcatch\\b", "\\bsynchronized\\b",
        "\\bassert\\b", "->", "::", "\\bimport\\b", "\\bpackage\\b", "\\bExact\\b", "\\bnative\\b", "\\bvolatile\\b",
        "\\bprotected\\b", "\\bNaN\\b", "\\bdouble\\b", "\\bfloat\\b", "\\bObject\\b", "\\bSystem\\b", "\\bThread\\b",
        "\\bRandom\\b", "\\.equals\\(", "\\bhashCode\\b", "\\btoString\\b", "static \\{", "[^\\x00-\\x7F]"};
    private static int wrong = 0;

    public static void main(String[] args) throws IOException {
        String path = args.length > 0 ? args[0] : "src/main/java/OneSentence.java";
        List<String> lines = Files.readAllLines(Path.of(path));
        face();
        members(OneSentence.class);
        words(lines);
        lengths(lines);
        System.out.println(wrong == 0 ? "the rules are kept" : wrong + " rules are not kept");
        if (wrong != 0) {
            System.exit(1);
        }
    }

    private static void fault(String what) {
        wrong++;
        System.out.println(what);
    }

    private static String signature(Method method) {
        StringBuilder told = new StringBuilder(method.getReturnType() + " " + method.getName() + "(");
        for (Class<?> type : method.getParameterTypes()) {
            told.append(told.charAt(told.length() - 1) == '(' ? "" : ",").append(type);
        }
        return told.append(')').toString();
    }

    private static void face() {
        TreeSet<String> found = new TreeSet<>();
        TreeSet<String> names = new TreeSet<>();
        for (Method method : OneSentence.class.getDeclaredMethods()) {
            if (!Modifier.isPrivate(method.getModifiers())) {
                found.add(signature(method));
                names.add(method.getName());
                if (!Modifier.isPublic(method.getModifiers()) || Modifier.isStatic(method.getModifiers())) {
                    fault("rule 1: " + method);
                }
            }
        }
        if (!found.equals(new TreeSet<>(Arrays.asList(FACE)))) {
            fault("rule 1: the face is " + found);
        }
        List<Class<?>> classes = new ArrayList<>(Arrays.asList(OneSentence.class.getDeclaredClasses()));
        classes.add(OneSentence.class);
        for (Class<?> type : classes) {
            for (Method method : type.getDeclaredMethods()) {
                if (Modifier.isPrivate(method.getModifiers()) && names.contains(method.getName())) {
                    fault("rule 1: a private method bears a public name: " + method);
                }
            }
        }
        TreeSet<String> constants = new TreeSet<>();
        for (Field field : OneSentence.class.getDeclaredFields()) {
            if (!Modifier.isPrivate(field.getModifiers())) {
                constants.add(field.getName());
                if (field.getModifiers() != (Modifier.PUBLIC | Modifier.STATIC | Modifier.FINAL)) {
                    fault("rule 1: " + field);
                }
            }
        }
        TreeSet<String> wanted = new TreeSet<>();
        for (String constant : CONSTANTS) {
            wanted.add(constant.split(" ")[0]);
            constantIs(constant);
        }
        if (!constants.equals(wanted)) {
            fault("rule 1: the constants are " + constants);
        }
        Constructor<?>[] made = OneSentence.class.getDeclaredConstructors();
        if (made.length != 1 || !Modifier.isPublic(made[0].getModifiers()) || made[0].getParameterCount() != 0) {
            fault("rule 1: the constructors are " + Arrays.toString(made));
        }
        if (!Modifier.isFinal(OneSentence.class.getModifiers())) {
            fault("rule 1: the class is not final");
        }
    }

    private static void constantIs(String constant) {
        String[] parts = constant.split(" ");
        try {
            Field field = OneSentence.class.getDeclaredField(parts[0]);
            if (field.getInt(null) != Integer.parseInt(parts[1])) {
                fault("rule 1: " + parts[0] + " is not " + parts[1]);
            }
        } catch (ReflectiveOperationException missing) {
            fault("rule 1: " + missing);
        }
    }

    private static void members(Class<?> type) {
        int fields = 0;
        for (Field field : type.getDeclaredFields()) {
            boolean isStatic = Modifier.isStatic(field.getModifiers());
            fields += isStatic ? 0 : 1;
            if (isStatic && !Modifier.isFinal(field.getModifiers())) {
                fault("rule 5: " + field);
            }
        }
        if (fields > 20) {
            fault("rule 11: " + type + " has " + fields + " fields");
        }
        for (Method method : type.getDeclaredMethods()) {
            if (method.getParameterCount() > 7) {
                fault("rule 11: " + method);
            }
        }
        if (type.getDeclaredClasses().length > 12) {
            fault("rule 11: too many classes");
        }
        for (Class<?> inside : type.getDeclaredClasses()) {
            if (!Modifier.isStatic(inside.getModifiers()) || Modifier.isPublic(inside.getModifiers())) {
                fault("rule 2: " + inside);
            }
            members(inside);
        }
    }

    private static void words(List<String> lines) {
        for (int i = 0; i < lines.size(); i++) {
            String line = lines.get(i);
            String code = line.trim().startsWith("*") || line.trim().startsWith("/**") ? "" : line.replaceAll("//.*", "");
            for (String word : FORBIDDEN) {
                Matcher matcher = Pattern.compile(word).matcher(code);
                if (matcher.find()) {
                    fault("line " + (i + 1) + " has " + matcher.group());
                }
            }
        }
    }

    private static void lengths(List<String> lines) {
        int begin = -1;
        String end = "";
        for (int i = 0; i < lines.size(); i++) {
            String line = lines.get(i);
            if (begin < 0 && line.matches("(    |        )(public|private).*\\) \\{")) {
                begin = i;
                end = line.substring(0, line.length() - line.stripLeading().length()) + "}";
            } else if (begin >= 0 && line.equals(end)) {
                if (i - begin > 60) {
                    fault("rule 11: the method at line " + (begin + 1) + " is long");
                }
                begin = -1;
            }
        }
    }
}
