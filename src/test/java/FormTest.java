import java.lang.reflect.Constructor;
import java.lang.reflect.Field;
import java.lang.reflect.Method;
import java.lang.reflect.Modifier;
import java.nio.charset.StandardCharsets;
import java.nio.file.Files;
import java.nio.file.Path;
import java.util.List;
import java.util.Set;
import java.util.TreeSet;
import java.util.regex.Matcher;
import java.util.regex.Pattern;

/** The document's public face, and what of LANGUAGE.md can be seen in the file. Runs in the project's directory. */
public final class FormTest {
    private static final String SOURCE = "src/main/java/SideVersions.java";
    private static final Set<String> FACE = new TreeSet<>(List.of(
        "int type(int)", "int clear()", "int tells()", "int reads(int,int,int)", "int writes(int,int,int,int,long)",
        "int blinds(int)", "int sends(int,int,int)", "int merges(int,int)", "int rules(int,int)",
        "int row(int,int,int)", "long sibling(int,int,int,int)", "int context(int,int)", "long write(int,int,int,int)",
        "int ahead(int,int,int,int,int,int)", "int alike(int,int,int)", "int behind(int,int)", "int spread(int,int)",
        "int rule(int,int)", "int tally(int,int)", "int count(int)"));
    private static final Set<String> CONSTANTS = new TreeSet<>(List.of("BAD", "STATE", "FULL", "UNLIKE", "OVER", "NONE"));
    private static final List<String> FORBIDDEN = List.of("throw", "throws", "try", "catch", "finally", "synchronized",
        "assert", "package", "native", "volatile", "Object", "Thread", "Random", "hashCode", "\\w+Exact");
    private static final Set<String> MADE = Set.of("int", "long", "short", "byte", "char", "boolean", "double", "float",
        "String", "StringBuilder", "ArrayList");

    public static void main(String[] args) throws Exception {
        Check.at("the face");
        face();
        Check.at("the language");
        language(Files.readString(Path.of(SOURCE), StandardCharsets.US_ASCII));
        Check.finish();
    }

    private static void face() {
        Class<?> type = SideVersions.class;
        int modifiersDue = Modifier.PUBLIC | Modifier.FINAL;
        Check.due("public and final", type.getModifiers() & modifiersDue, modifiersDue);
        Set<String> methods = new TreeSet<>();
        Set<String> names = new TreeSet<>();
        for (Method method : type.getDeclaredMethods()) {
            if (!Modifier.isPrivate(method.getModifiers()) && !method.isSynthetic()) {
                methods.add(signature(method));
                names.add(method.getName());
            }
        }
        same("methods", methods, FACE);
        Set<String> constants = new TreeSet<>();
        for (Field field : type.getDeclaredFields()) {
            if (!Modifier.isPrivate(field.getModifiers())) {
                constants.add(field.getName());
                Check.due(field + " is a public constant", field.getModifiers(), Modifier.PUBLIC | Modifier.STATIC | Modifier.FINAL);
            }
        }
        same("constants", constants, CONSTANTS);
        Constructor<?>[] constructors = type.getDeclaredConstructors();
        Check.due("constructors", constructors.length, 1);
        Check.due("its parameters", constructors[0].getParameterCount(), 0);
        members(type, names);
        for (Class<?> inside : type.getDeclaredClasses()) {
            int modifiers = inside.getModifiers();
            Check.due(inside + " is static", Modifier.isStatic(modifiers) ? 1 : 0, 1);
            Check.due(inside + " is not seen outside", modifiers & (Modifier.PUBLIC | Modifier.PROTECTED), 0);
            members(inside, names);
        }
        Check.due("some twelve classes", Math.max(type.getDeclaredClasses().length + 1, 14), 14);
    }

    private static void members(Class<?> type, Set<String> names) {
        int fields = 0;
        for (Method method : type.getDeclaredMethods()) {
            boolean isPrivate = Modifier.isPrivate(method.getModifiers());
            Check.due(method + " has no name of the face", isPrivate && names.contains(method.getName()) ? 1 : 0, 0);
            Check.due(method + " has at most seven parameters", Math.max(method.getParameterCount(), 7), 7);
        }
        for (Field field : type.getDeclaredFields()) {
            if (Modifier.isStatic(field.getModifiers())) {
                Check.due(field + " is final", Modifier.isFinal(field.getModifiers()) ? 1 : 0, 1);
            } else {
                fields++;
            }
        }
        Check.due(type + " has some twenty fields", Math.max(fields, 22), 22);
    }

    private static String signature(Method method) {
        StringBuilder text = new StringBuilder(method.getReturnType() + " " + method.getName() + "(");
        for (int i = 0; i < method.getParameterCount(); i++) {
            text.append(i > 0 ? "," : "").append(method.getParameterTypes()[i]);
        }
        return text.append(")").toString();
    }

    private static void same(String what, Set<String> got, Set<String> want) {
        Check.due(what + " " + got, got.equals(want) ? 1 : 0, 1);
    }

    private static void language(String source) {
        String code = source.replaceAll("(?s)/\\*.*?\\*/", "").replaceAll("//[^\n]*", "").replaceAll("\"[^\"\n]*\"", "\"\"");
        for (String word : FORBIDDEN) {
            Check.due("the word " + word, find(code, "\\b" + word + "\\b"), 0);
        }
        Check.due("lambdas and method references", find(code, "->|::"), 0);
        Check.due("joining texts", find(code, "\"\\s*\\+|\\+\\s*\""), 0);
        Check.due("static initialisers", find(code, "static\\s*\\{"), 0);
        Check.due("of System but arraycopy", find(code, "\\bSystem\\.(?!arraycopy\\b)"), 0);
        Check.due("of Arrays but copies and fill", find(code, "\\bArrays\\.(?!(copyOf|copyOfRange|fill)\\b)"), 0);
        Check.due("imports but of java.util", find(code, "\\bimport (?!java\\.util\\.)"), 0);
        Matcher made = Pattern.compile("\\bnew\\s+(\\w+)").matcher(code);
        while (made.find()) {
            boolean own = code.contains("class " + made.group(1)) || code.contains("record " + made.group(1));
            Check.due(made.group() + " is listed", own || MADE.contains(made.group(1)) ? 1 : 0, 1);
        }
    }

    private static int find(String code, String pattern) {
        Matcher matcher = Pattern.compile(pattern).matcher(code);
        int found = 0;
        while (matcher.find()) {
            found++;
        }
        return found;
    }
}
