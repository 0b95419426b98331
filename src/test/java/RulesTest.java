import java.io.IOException;
import java.lang.reflect.Constructor;
import java.lang.reflect.Field;
import java.lang.reflect.Method;
import java.lang.reflect.Modifier;
import java.nio.file.Files;
import java.nio.file.Path;
import java.util.Arrays;
import java.util.Map;
import java.util.Set;
import java.util.TreeMap;
import java.util.TreeSet;
import java.util.regex.Matcher;
import java.util.regex.Pattern;

/** The face of the document, and those rules of ../shared/LANGUAGE.md that a look at the file can tell. */
public final class RulesTest {
    private static final String[] FACE = {
        "int order(int)", "int term(int,int,int,int,int)", "int keep()", "int drop(int)", "int terms(int)",
        "int number(int,int)", "int exponent(int,int,int)", "int sum(int,int,int)", "int product(int,int)",
        "int derived(int,int)", "int spair(int,int)", "int value(int,int,int,int,int)", "int compare(int,int)",
        "int fuel(int)", "int way(int)", "int rules(int)", "int enter(int)", "int clear()", "int work(int)", "int tidy()",
        "int left(int)", "int member(int)", "int pair(int)", "int standing()", "int stands(int,int)", "int without(int)",
        "int zeros()", "int count(int)", "long digest()"
    };
    private static final String[] CONSTANTS = {"NONE", "BAD", "NOT", "FULL", "GREAT", "LONG", "SPENT"};
    private static final String[] FORBIDDEN = {
        "\\bthrow\\b", "\\bthrows\\b", "\\btry\\b", "\\bcatch\\b", "\\bfinally\\b", "\\bsynchronized\\b", "\\bassert\\b", "->", "::",
        "\\w+Exact\\b", "\\bequals\\b", "\\bhashCode\\b", "\\btoString\\b", "\\bSystem\\.(?!arraycopy)", "\\bThread\\b", "\\bRandom\\b",
        "\\bpackage\\b", "\\bimport (?!java\\.util\\.(Arrays|ArrayList|List);)", "\\bstatic \\{", "\\bvar\\b", "\\bprotected\\b", "\""
    };

    private static int wrong = 0;

    private static void due(boolean holds, String what) {
        if (!holds) {
            wrong++;
            System.out.println("not so: " + what);
        }
    }

    private static boolean isPrivate(int modifiers) {
        return Modifier.isPrivate(modifiers);
    }

    private static String told(Method m) {
        StringBuilder s = new StringBuilder(m.getReturnType() + " " + m.getName() + "(");
        for (Class<?> type : m.getParameterTypes()) {
            s.append(s.charAt(s.length() - 1) == '(' ? "" : ",").append(type);
        }
        return s.append(")").toString();
    }

    private static void face() throws ReflectiveOperationException {
        due(Modifier.isFinal(IdealBench.class.getModifiers()), "the class is final");
        Set<String> open = new TreeSet<>();
        Set<String> names = new TreeSet<>();
        for (Method m : IdealBench.class.getDeclaredMethods()) {
            if (!isPrivate(m.getModifiers())) {
                open.add(told(m));
                names.add(m.getName());
                due(Modifier.isPublic(m.getModifiers()) && !Modifier.isStatic(m.getModifiers()), m + " is public, of an object");
            }
        }
        due(open.equals(new TreeSet<>(Arrays.asList(FACE))), "the methods are those of the document: " + open);
        Set<String> constants = new TreeSet<>();
        for (Field f : IdealBench.class.getDeclaredFields()) {
            if (!isPrivate(f.getModifiers())) {
                constants.add(f.getName());
                due(Modifier.isStatic(f.getModifiers()) && Modifier.isFinal(f.getModifiers()) && f.getType() == int.class, f + " is a constant");
            }
        }
        due(constants.equals(new TreeSet<>(Arrays.asList(CONSTANTS))), "the constants are those of the document: " + constants);
        Constructor<?>[] constructors = IdealBench.class.getDeclaredConstructors();
        due(constructors.length == 1 && constructors[0].equals(IdealBench.class.getConstructor(int.class, int.class)), "one constructor");
        inside(IdealBench.class, names);
        Class<?>[] all = IdealBench.class.getDeclaredClasses();
        due(all.length <= 12, "twelve classes at most");
        for (Class<?> one : all) {
            due(Modifier.isStatic(one.getModifiers()) && !Modifier.isPublic(one.getModifiers()), one + " is static and not public");
            inside(one, names);
        }
    }

    private static void inside(Class<?> one, Set<String> publicNames) {
        int fields = 0;
        for (Field f : one.getDeclaredFields()) {
            fields += Modifier.isStatic(f.getModifiers()) ? 0 : 1;
            due(!Modifier.isStatic(f.getModifiers()) || Modifier.isFinal(f.getModifiers()), f + " is final");
        }
        due(fields <= 20, one + " has twenty fields at most");
        for (Method m : one.getDeclaredMethods()) {
            due(m.getParameterCount() <= 7, m + " takes seven parameters at most");
            due(Modifier.isPublic(m.getModifiers()) || !publicNames.contains(m.getName()), m + " bears no public name");
        }
    }

    private static void file() throws IOException {
        String source = Files.readString(Path.of("src/main/java/IdealBench.java"));
        due(source.chars().allMatch(sign -> sign < 128), "all signs are below 128");
        String code = source.replaceAll("(?s)/\\*.*?\\*/", "").replaceAll("//[^\n]*", "");
        for (String forbidden : FORBIDDEN) {
            Matcher found = Pattern.compile(forbidden).matcher(code);
            due(!found.find(), "the program has no " + forbidden);
        }
        int length = 0;
        for (String line : source.split("\n")) {
            length = line.startsWith("    }") || line.startsWith("        }") && !line.startsWith("        } ") ? 0 : length + 1;
            due(length <= 60, "methods are short: " + line);
            due(line.length() <= 140, "lines are short: " + line);
        }
        for (String line : code.split("\n")) {
            boolean makesInCall = line.startsWith("            ") && line.contains("new ") && !line.matches(" +(polys|rows|spare)\\[\\w+\\] = new Poly\\(\\);");
            due(!makesInCall, "only constructors make objects: " + line);
        }
    }

    /** Methods of one name are taken as one, so that no call is overlooked; constructors are not looked at. */
    private static void depth() throws IOException {
        String code = Files.readString(Path.of("src/main/java/IdealBench.java")).replaceAll("(?s)/\\*.*?\\*/", "").replaceAll("//[^\n]*", "");
        Map<String, Set<String>> calls = new TreeMap<>();
        Matcher methods = Pattern.compile("(?m)^( {4}| {8})(?:\\w+ )*\\w[\\w\\[\\]]* (\\w+)\\([^)]*\\) \\{\n((?s:.*?))^\\1\\}").matcher(code);
        while (methods.find()) {
            Set<String> called = calls.computeIfAbsent(methods.group(2), name -> new TreeSet<>());
            Matcher call = Pattern.compile("(?<!new )(?<!\\w)(?!if|for|while|switch|return)((?:(?:Math|Integer|Arrays)\\.)?\\w+)\\(").matcher(methods.group(3));
            while (call.find()) {
                called.add(call.group(1));
            }
        }
        due(calls.size() > FACE.length, "methods are found");
        for (String method : FACE) {
            String name = method.replaceAll("\\w+ (\\w+)\\(.*", "$1");
            due(calls.containsKey(name), name + " is found");
            int deep = deep(calls, name, 0);
            due(deep <= 8, name + " goes eight calls deep at most: " + deep);
        }
    }

    private static int deep(Map<String, Set<String>> calls, String name, int above) {
        int most = above + 1;
        for (String called : calls.getOrDefault(name, Set.of())) {
            most = Math.max(most, above > 20 ? above : deep(calls, called, above + 1));
        }
        return most;
    }

    public static void main(String[] args) throws Exception {
        face();
        file();
        depth();
        System.out.println(wrong == 0 ? "the rules are kept" : wrong + " rules are not kept");
        if (wrong != 0) {
            System.exit(1);
        }
    }
}
