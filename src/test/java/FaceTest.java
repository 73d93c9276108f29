import java.io.IOException;
import java.lang.reflect.Constructor;
import java.lang.reflect.Field;
import java.lang.reflect.Method;
import java.lang.reflect.Modifier;
import java.nio.charset.StandardCharsets;
import java.nio.file.Files;
import java.nio.file.Path;
import java.util.Arrays;
import java.util.Set;
import java.util.TreeSet;
import java.util.regex.Matcher;
import java.util.regex.Pattern;

/** The public face, no more and no less, and those rules of LANGUAGE.md that can be seen from outside or by words. */
public final class FaceTest {
    private static final String[] METHODS = {
        "int type(long,int)", "int clear()", "int cellar()", "int sort(int,int)", "int wheel(int,int)", "int week(int,int)",
        "int place(int,int,int)", "int eat(int)", "int sell(int)", "int stop(int)", "int next()", "int now(int)", "int lot(int)",
        "int value(int)", "int left(int)", "int choice(int)", "int brings(int)", "int play(int)", "int blind(int)", "int know()",
        "int spare(int)", "long stands(int,int,int,int)", "int thought(int)", "int aged()", "int shown(int)",
        "long thinks(int,int)", "int note(int,int)", "int keep(int)", "int back(int)", "int count(int)", "long trace()"};
    private static final String[] CONSTANTS = {"BAD -1", "STATE -2", "FULL -3", "NONE -9", "NO -1000000"};
    private static final String[] NOT_ALLOWED = {
        "throw", "throws", "try", "catch", "finally", "synchronized", "assert", "->", "::", "System.out", "System.nanoTime",
        "System.currentTimeMillis", "Random", "Thread", "Object", "hashCode", "toString", "volatile", "transient", "native",
        "package", "extends Exception", "Exact"};
    private static final Set<String> LIBRARY = Set.of(
        "java/lang/Object.<init>", "java/lang/String.length", "java/lang/String.charAt", "java/lang/Math.max", "java/lang/Math.min",
        "java/lang/System.arraycopy", "java/util/Arrays.fill");
    private static final int MOST_CLASSES = 12;
    private static final int MOST_FIELDS = 20;
    private static final int MOST_LINES = 60;

    private final Due due = new Due();

    private static String faceOf(Method m) {
        StringBuilder b = new StringBuilder(m.getReturnType().getSimpleName()).append(' ').append(m.getName()).append('(');
        for (int i = 0; i < m.getParameterCount(); i++) {
            b.append(i == 0 ? "" : ",").append(m.getParameterTypes()[i].getSimpleName());
        }
        return b.append(')').toString();
    }

    private void members() throws IllegalAccessException {
        Class<?> face = CheeseFirst.class;
        due.due("public and final", face.getModifiers(), Modifier.PUBLIC | Modifier.FINAL);
        Set<String> methods = new TreeSet<>();
        Set<String> names = new TreeSet<>();
        for (Method m : face.getDeclaredMethods()) {
            if (Modifier.isPublic(m.getModifiers())) {
                methods.add(faceOf(m));
                names.add(m.getName());
            }
        }
        told("methods", methods, new TreeSet<>(Arrays.asList(METHODS)));
        Set<String> constants = new TreeSet<>();
        for (Field f : face.getDeclaredFields()) {
            if (Modifier.isPublic(f.getModifiers())) {
                constants.add(f.getName() + " " + f.getInt(null));
            }
            boolean fine = Modifier.isPrivate(f.getModifiers()) || Modifier.isPublic(f.getModifiers());
            due.due("a field is public or private: " + f, fine ? 1 : 0, 1);
        }
        told("constants", constants, new TreeSet<>(Arrays.asList(CONSTANTS)));
        for (Constructor<?> c : face.getDeclaredConstructors()) {
            due.due("a public constructor " + c, c.getParameterCount() + (Modifier.isPublic(c.getModifiers()) ? 0 : 9), 0);
        }
        for (Class<?> c : face.getDeclaredClasses()) {
            due.due("static, not public: " + c, c.getModifiers() & (Modifier.STATIC | Modifier.PUBLIC | Modifier.PROTECTED), Modifier.STATIC);
            for (Method m : c.getDeclaredMethods()) {
                due.due("a name of its own: " + m, names.contains(m.getName()) ? 1 : 0, 0);
            }
        }
        privateNames(face, names);
    }

    private void privateNames(Class<?> face, Set<String> names) {
        for (Method m : face.getDeclaredMethods()) {
            if (!Modifier.isPublic(m.getModifiers())) {
                due.due("private: " + m, Modifier.isPrivate(m.getModifiers()) ? 1 : 0, 1);
                due.due("a name of its own: " + m, names.contains(m.getName()) ? 1 : 0, 0);
            }
        }
    }

    private void sizes() {
        due.due("classes", CheeseFirst.class.getDeclaredClasses().length + 1 <= MOST_CLASSES ? 1 : 0, 1);
        sizeOf(CheeseFirst.class);
        for (Class<?> c : CheeseFirst.class.getDeclaredClasses()) {
            sizeOf(c);
        }
    }

    private void sizeOf(Class<?> c) {
        int fields = 0;
        for (Field f : c.getDeclaredFields()) {
            if (!Modifier.isStatic(f.getModifiers())) {
                fields++;
            } else {
                due.due("a static field is final: " + f, Modifier.isFinal(f.getModifiers()) ? 1 : 0, 1);
            }
        }
        due.due("fields of " + c + ": " + fields, fields <= MOST_FIELDS ? 1 : 0, 1);
        for (Method m : c.getDeclaredMethods()) {
            due.due("parameters of " + m, m.getParameterCount() <= 7 ? 1 : 0, 1);
        }
    }

    private void told(String what, Set<String> got, Set<String> want) {
        due.due(what + " " + got, got.equals(want) ? 1 : 0, 1);
    }

    private void words() throws IOException {
        byte[] bytes = Files.readAllBytes(Path.of("src/main/java/CheeseFirst.java"));
        for (byte b : bytes) {
            if (b < 9) {
                due.due("a sign beyond 127 in the source", b, 0);
            }
        }
        String source = new String(bytes, StandardCharsets.ISO_8859_1);
        String code = source.replaceAll("(?s)/\\*.*?\\*/", "").replaceAll("//[^\n]*", "");
        for (String word : NOT_ALLOWED) {
            String edge = Character.isLetter(word.charAt(0)) ? "\\b" : "";
            due.due("'" + word + "' in the source", Pattern.compile(edge + Pattern.quote(word) + edge).matcher(code).find() ? 1 : 0, 0);
        }
        Matcher imports = Pattern.compile("import ([^;]*);").matcher(code);
        while (imports.find()) {
            due.due("import " + imports.group(1), imports.group(1).matches("java\\.util\\.(Arrays|ArrayList|List)") ? 1 : 0, 1);
        }
        methodLines(source);
    }

    /** A method ends where its closing bracket stands as far in as its first line. */
    private void methodLines(String source) {
        Matcher heads = Pattern.compile("(?m)^( {4}| {8})[a-z][^=;\\n]*\\) \\{$").matcher(source);
        while (heads.find()) {
            int end = source.indexOf("\n" + heads.group(1) + "}", heads.start());
            long lines = source.substring(heads.start(), Math.max(heads.start(), end)).lines().count();
            due.due("lines of " + heads.group().trim() + ": " + lines, lines <= MOST_LINES ? 1 : 0, 1);
        }
    }

    /** What the compiled classes call or read beyond themselves stands in their tables of constants. */
    private void library() throws IOException {
        libraryOf(CheeseFirst.class);
        for (Class<?> c : CheeseFirst.class.getDeclaredClasses()) {
            libraryOf(c);
        }
    }

    private void libraryOf(Class<?> c) throws IOException {
        for (String name : ClassFile.usedBy(c)) {
            boolean own = name.startsWith("CheeseFirst.") || name.startsWith("CheeseFirst$");
            due.due("used in " + c + ": " + name, own || LIBRARY.contains(name) ? 1 : 0, 1);
        }
    }

    public static void main(String[] args) throws Exception {
        FaceTest t = new FaceTest();
        t.members();
        t.sizes();
        t.words();
        t.library();
        t.due.end("FaceTest");
    }
}
