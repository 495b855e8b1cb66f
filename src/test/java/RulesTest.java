import java.lang.reflect.Constructor;
import java.lang.reflect.Field;
import java.lang.reflect.Method;
import java.lang.reflect.Modifier;
import java.nio.file.Files;
import java.nio.file.Path;
import java.util.Set;
import java.util.TreeSet;
import java.util.regex.Matcher;
import java.util.regex.Pattern;

/** The face of the document, and what of LANGUAGE.md can be seen from outside. */
public final class RulesTest {
    private static final Check check = new Check("RulesTest");
    private static final Set<String> FACE = Set.of("int type(int)", "int clear()", "int pot()",
        "int dumpling(int,int)", "int now(int)", "int order(int)", "int drops(int)", "int minute()",
        "int heats(int)", "int skewers(int)", "int dips(int)", "int undo()", "int deep(int,int)",
        "int when(int)", "int warm(int,int)", "int kept(int,int)", "int party(int)",
        "int power(int,int)", "int odds(int,int,int)", "int sees(int,int,int)", "int forget()",
        "int weights(int,int)", "int look(int)", "int rate(int,int)", "int keep(int)",
        "int back(int)", "int count(int)", "long trace()");

    public static void main(String[] args) throws Exception {
        face();
        inside();
        source(Files.readString(Path.of("src/main/java/DumplingPolls.java")));
        check.end();
    }

    private static void face() {
        Set<String> methods = new TreeSet<>();
        for (Method m : DumplingPolls.class.getDeclaredMethods()) {
            if (Modifier.isPublic(m.getModifiers())) {
                methods.add(signature(m));
            } else {
                isTrue(m + " is private", Modifier.isPrivate(m.getModifiers()));
                isFree(m);
            }
        }
        isTrue("the face's methods: " + methods, methods.equals(new TreeSet<>(FACE)));
        Set<String> constants = new TreeSet<>();
        for (Field f : DumplingPolls.class.getDeclaredFields()) {
            if (Modifier.isPublic(f.getModifiers())) {
                constants.add(f.getName());
                isTrue(f + " is a constant", Modifier.isStatic(f.getModifiers()) && Modifier.isFinal(f.getModifiers()));
            } else {
                isTrue(f + " is private", Modifier.isPrivate(f.getModifiers()));
            }
        }
        isTrue("the face's constants", constants.equals(new TreeSet<>(Set.of("BAD", "STATE", "FULL", "NONE", "NO"))));
        isTrue("one constructor", DumplingPolls.class.getDeclaredConstructors().length == 1);
        isTrue("the class is final", Modifier.isFinal(DumplingPolls.class.getModifiers()));
    }

    private static void inside() {
        Class<?>[] classes = DumplingPolls.class.getDeclaredClasses();
        isTrue("at most twelve classes", classes.length <= 11);
        for (Class<?> c : classes) {
            isTrue(c + " is static", Modifier.isStatic(c.getModifiers()));
            isTrue(c + " is not public", !Modifier.isPublic(c.getModifiers()) && !Modifier.isProtected(c.getModifiers()));
            int fields = 0;
            for (Field f : c.getDeclaredFields()) {
                boolean constant = Modifier.isStatic(f.getModifiers());
                isTrue(f + " is final if static", !constant || Modifier.isFinal(f.getModifiers()));
                fields += constant ? 0 : 1;
            }
            isTrue(c + " has at most twenty fields", fields <= 20);
            for (Method m : c.getDeclaredMethods()) {
                isFree(m);
                isTrue(m + " takes seven at most", m.getParameterCount() <= 7);
            }
            for (Constructor<?> k : c.getDeclaredConstructors()) {
                isTrue(k + " is private", Modifier.isPrivate(k.getModifiers()));
            }
        }
    }

    /** No private method bears the name of a public one. */
    private static void isFree(Method m) {
        for (String signature : FACE) {
            isTrue(m + " has a name of its own", !signature.contains(" " + m.getName() + "("));
        }
    }

    private static String signature(Method m) {
        StringBuilder text = new StringBuilder(m.getReturnType() + " " + m.getName() + "(");
        for (Class<?> c : m.getParameterTypes()) {
            text.append(text.charAt(text.length() - 1) == '(' ? "" : ",").append(c);
        }
        return text.append(")").toString();
    }

    private static void source(String source) {
        String code = source.replaceAll("(?s)/\\*.*?\\*/", "").replaceAll("//[^\n]*", "");
        String[] words = {"throw", "throws", "try", "catch", "finally", "synchronized", "assert", "import", "package",
            "native", "volatile", "transient", "float", "double", "var", "yield", "instanceof", "Object", "System\\.out",
            "Random", "Thread", "nanoTime", "currentTimeMillis", "hashCode", "toString", "\\w+Exact", "protected"};
        for (String word : words) {
            isTrue("no " + word, !Pattern.compile("\\b" + word + "\\b").matcher(code).find());
        }
        isTrue("no lambda, no method reference", !code.contains("->") && !code.contains("::"));
        isTrue("no text joined by +", !code.contains("\""));
        Set<String> used = new TreeSet<>();
        Matcher library = Pattern.compile("\\b(Integer|Long|Math|System|String|Arrays)\\.\\w+").matcher(code);
        while (library.find()) {
            used.add(library.group());
        }
        Set<String> may = Set.of("Integer.bitCount", "Long.bitCount", "Math.abs", "Math.max", "Math.min", "System.arraycopy");
        isTrue("the library: " + used, may.containsAll(used));
        methodsAreShort(code);
    }

    private static void methodsAreShort(String code) {
        Pattern head = Pattern.compile("(?m)^( +)(public|private) [^;=]*\\{$");
        Matcher m = head.matcher(code);
        while (m.find()) {
            if (!m.group().contains(" class ")) {
                int end = code.indexOf("\n" + m.group(1) + "}", m.end());
                long lines = code.substring(m.start(), Math.max(m.start(), end)).lines().count();
                isTrue(m.group() + " is short", end > 0 && lines <= 60);
            }
        }
    }

    private static void isTrue(String what, boolean so) {
        check.due(what, so ? 1 : 0, 1);
    }
}
