import java.io.IOException;
import java.lang.reflect.Constructor;
import java.lang.reflect.Field;
import java.lang.reflect.Method;
import java.lang.reflect.Modifier;
import java.nio.file.Files;
import java.nio.file.Path;
import java.util.Set;
import java.util.TreeSet;
import java.util.regex.Matcher;
import java.util.regex.Pattern;

/** The face of the document, to the letter, and what of LANGUAGE.md can be seen in the text of the class. */
public final class LanguageTest {
    private static final Path SOURCE = Path.of("src/main/java/RecordBridge.java");
    private static final String[] FACE = {
        "int row(int,int)", "int put(int,int,int,long)", "long get(int,int,int)", "int lay(int,int,int)",
        "int at(int,int)", "int length(int,int)", "int copy(int,int,int,int,int)", "int twin(int)",
        "int record(int)", "int constants(int)", "int more(int,int,int)", "int edition(int,int,int,int)",
        "int family(int,boolean)", "int info(int,int)", "int give(int,int,long)", "int hand(int,int,boolean)",
        "int make(int)", "int named(int,int)", "long part(int,int)", "long accessor(int,int)", "int of(int,int)",
        "int array(int,int,boolean)", "int match(int,int)", "int equal(int,int)", "int order(int,int)",
        "long hash(int)", "int weight(int)", "int show(int)", "int byteAt(int)", "int carry(int)", "int trace()",
        "int fault()", "int told(int)",
    };
    private static final String[] CONSTANTS = {"UNKNOWN", "OUTSIDE", "NO", "FULL", "NONE", "LOST"};
    private static final String[] FORBIDDEN = {
        "\\bimport\\b", "\\bpackage\\b", "->", "::", "\\btry\\b", "\\bcatch\\b", "\\bthrow\\b", "\\bfinally\\b",
        "\\bassert\\b", "\\bsynchronized\\b", "\\bfloat\\b", "\\bdouble\\b", "\\bvar\\b", "Exact\\b", "\\bjava\\.",
        "\\bFloat\\.", "\\bDouble\\.", "static \\{", "\\bObject\\b", "\\bprotected\\b", "instanceof",
    };
    private static final Set<String> LIBRARY = Set.of(
        "System.arraycopy", "Integer.bitCount", "Integer.MIN_VALUE", "Long.MIN_VALUE", "Long.MAX_VALUE", "Math.max");

    public static void main(String[] args) throws IOException {
        lookAtTheFace();
        lookAtConstants();
        lookAtClassesInside();
        String code = Files.readString(SOURCE).replaceAll("(?s)/\\*.*?\\*/", "").replaceAll("//[^\n]*", "");
        lookAtWords(code);
        lookAtMethods(code);
        Check.end();
    }

    private static void lookAtTheFace() {
        Set<String> due = new TreeSet<>(Set.of(FACE));
        Set<String> names = new TreeSet<>();
        Set<String> got = new TreeSet<>();
        for (Method m : RecordBridge.class.getDeclaredMethods()) {
            if (Modifier.isPublic(m.getModifiers())) {
                got.add(signature(m));
                names.add(m.getName());
                Check.isTrue(m + " is of the object", !Modifier.isStatic(m.getModifiers()));
            }
        }
        Check.isTrue("the face is " + got, got.equals(due));
        for (Method m : RecordBridge.class.getDeclaredMethods()) {
            if (!Modifier.isPublic(m.getModifiers())) {
                Check.isTrue(m + " is private", Modifier.isPrivate(m.getModifiers()));
                Check.isTrue(m + " has a name of its own", !names.contains(m.getName()));
            }
        }
        Constructor<?>[] constructors = RecordBridge.class.getDeclaredConstructors();
        Check.due("constructors", constructors.length, 1);
        Check.due("its parameters", constructors[0].getParameterCount(), 0);
        Check.isTrue("public", Modifier.isPublic(constructors[0].getModifiers()));
        Check.isTrue("final", Modifier.isFinal(RecordBridge.class.getModifiers()));
    }

    private static String signature(Method m) {
        StringBuilder text = new StringBuilder(m.getReturnType().getName()).append(' ').append(m.getName()).append('(');
        for (int i = 0; i < m.getParameterCount(); i++) {
            text.append(i == 0 ? "" : ",").append(m.getParameterTypes()[i].getName());
        }
        return text.append(')').toString();
    }

    private static void lookAtConstants() {
        Set<String> got = new TreeSet<>();
        for (Field f : RecordBridge.class.getDeclaredFields()) {
            if (!Modifier.isPrivate(f.getModifiers())) {
                got.add(f.getName());
            }
            Check.isTrue(f + " is no static state", !Modifier.isStatic(f.getModifiers()) || Modifier.isFinal(f.getModifiers()));
        }
        Check.isTrue("the constants are " + got, got.equals(new TreeSet<>(Set.of(CONSTANTS))));
        Check.due("UNKNOWN", RecordBridge.UNKNOWN, -1);
        Check.due("OUTSIDE", RecordBridge.OUTSIDE, -2);
        Check.due("NO", RecordBridge.NO, -3);
        Check.due("FULL", RecordBridge.FULL, -4);
        Check.due("NONE", RecordBridge.NONE, -5);
        Check.due("LOST", RecordBridge.LOST, Long.MIN_VALUE);
    }

    private static void lookAtClassesInside() {
        Class<?>[] inside = RecordBridge.class.getDeclaredClasses();
        Check.isTrue("at most some twelve classes", inside.length <= 11);
        for (Class<?> c : inside) {
            Check.isTrue(c + " is static", Modifier.isStatic(c.getModifiers()));
            Check.isTrue(c + " is not public", !Modifier.isPublic(c.getModifiers()));
            int fields = 0;
            for (Field f : c.getDeclaredFields()) {
                boolean isStatic = Modifier.isStatic(f.getModifiers());
                Check.isTrue(f + " is no static state", !isStatic || Modifier.isFinal(f.getModifiers()));
                fields += isStatic ? 0 : 1;
            }
            Check.isTrue(c + " has few fields", fields <= 20);
        }
    }

    private static void lookAtWords(String code) {
        for (String word : FORBIDDEN) {
            Check.isTrue("the class has " + word, !Pattern.compile(word).matcher(code).find());
        }
        Matcher m = Pattern.compile("\\b(System|Integer|Long|Math|Arrays|String|Boolean|Character)\\.\\w+").matcher(code);
        while (m.find()) {
            Check.isTrue(m.group() + " is in the library", LIBRARY.contains(m.group()));
        }
        for (int i = 0; i < code.length(); i++) {
            Check.isTrue("sign " + i + " is plain", code.charAt(i) < 127);
        }
    }

    /** Methods open with a line that ends in ") {" and close with a brace at the same indent. */
    private static void lookAtMethods(String code) {
        Pattern head = Pattern.compile("(?m)^( {4}| {8})(?:\\w+(?:\\[\\])? )*\\w+\\(([^()]*)\\) \\{$");
        Matcher m = head.matcher(code);
        int count = 0;
        while (m.find()) {
            int end = code.indexOf("\n" + m.group(1) + "}", m.end());
            long lines = code.substring(m.start(), end).lines().count();
            Check.isTrue(m.group() + " has " + lines + " lines", lines <= 60);
            Check.isTrue(m.group() + " has few parameters", m.group(2).split(",").length <= 7);
            count++;
        }
        Check.isTrue("methods were found", count > 80);
    }
}
