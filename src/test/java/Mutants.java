import java.io.File;
import java.io.IOException;
import java.io.StringWriter;
import java.net.URI;
import java.nio.file.Files;
import java.nio.file.Path;
import java.util.ArrayList;
import java.util.Collections;
import java.util.List;
import java.util.concurrent.ExecutorService;
import java.util.concurrent.Executors;
import java.util.concurrent.TimeUnit;
import java.util.regex.Matcher;
import java.util.regex.Pattern;
import javax.tools.JavaCompiler;
import javax.tools.JavaFileObject;
import javax.tools.SimpleJavaFileObject;
import javax.tools.ToolProvider;

/**
 * No test, but a look at the tests: CheeseFirst is spoilt at one place after the other, and EdgesTest has to
 * find each. What it does not find is told by line: either it changes no answer (a guard that is never
 * needed), or a test is missing. Takes some minutes; see README.md.
 */
public final class Mutants {
    private static final Path SOURCE = Path.of("src/main/java/CheeseFirst.java");
    private static final int SECONDS = 20;
    private static final String[][] CHANGES = {
        {"<=", "<"}, {">=", ">"}, {"==", "!="}, {"!=", "=="}, {"&&", "||"}, {"||", "&&"}, {"++", "--"}, {"+=", "-="}, {"-=", "+="},
        {"|=", "="}, {" < ", " <= "}, {" > ", " >= "}, {" + ", " - "}, {" - ", " + "}, {" * ", " + "}, {" / ", " * "}, {" % ", " / "},
        {"!", ""}, {"true", "false"}, {"false", "true"}, {" << ", " >> "}, {" >> ", " << "}, {" >>> ", " >> "}, {" & ", " | "}, {" | ", " & "}};

    private record Change(int from, int end, String to) { }

    private final String source;
    private final Path room;
    private final List<String> alive = Collections.synchronizedList(new ArrayList<>());

    private Mutants(String source, Path room) {
        this.source = source;
        this.room = room;
    }

    /** The source with blanks for comments and texts, so that places stay the same. */
    private static String codeAlone(String source) {
        Matcher m = Pattern.compile("(?s)/\\*.*?\\*/|//[^\n]*|\"[^\"\n]*\"|'.'").matcher(source);
        return m.replaceAll(r -> r.group().replaceAll("[^\n]", "_"));
    }

    private List<Change> changes() {
        String code = codeAlone(source);
        List<Change> all = new ArrayList<>();
        int body = code.indexOf("private static final int MOST_BYTES");
        for (int at = body; at < code.length(); at++) {
            for (String[] change : CHANGES) {
                if (code.startsWith(change[0], at) && !(change[0].equals("!") && code.startsWith("!=", at))) {
                    all.add(new Change(at, at + change[0].length(), change[1]));
                    break;
                }
            }
        }
        Matcher numbers = Pattern.compile("(?<![\\w.])\\d+(?=L?\\b)").matcher(code);
        while (numbers.find()) {
            if (numbers.start() > body) {
                long n = Long.parseLong(numbers.group());
                all.add(new Change(numbers.start(), numbers.end(), "" + (n + 1)));
                all.add(new Change(numbers.start(), numbers.end(), n == 0 ? "(-1)" : "" + (n - 1)));
            }
        }
        Matcher statements = Pattern.compile("(?m)^ +(?!return|break|continue|private|public|int|long|boolean|byte|this|import)[\\w.\\[\\]]+( [-+*/|]?= |\\(|\\+\\+)[^;{]*;$")
                .matcher(code);
        while (statements.find()) {
            all.add(new Change(statements.start(), statements.end(), ";"));
        }
        return all;
    }

    private boolean isFound(Change change, int number) throws IOException, InterruptedException {
        String spoilt = source.substring(0, change.from) + change.to + source.substring(change.end);
        Path here = Files.createDirectory(room.resolve("m" + number));
        JavaCompiler compiler = ToolProvider.getSystemJavaCompiler();
        JavaFileObject file = new SimpleJavaFileObject(URI.create("string:///CheeseFirst.java"), JavaFileObject.Kind.SOURCE) {
            @Override
            public CharSequence getCharContent(boolean ignore) {
                return spoilt;
            }
        };
        boolean compiled = compiler.getTask(new StringWriter(), null, null, List.of("-d", here.toString(), "-proc:none"), null, List.of(file)).call();
        if (!compiled) {
            return true;
        }
        Process process = new ProcessBuilder("java", "-XX:TieredStopAtLevel=1", "-Xmx256m", "-cp", here + File.pathSeparator + room, "EdgesTest")
                .redirectErrorStream(true).redirectOutput(here.resolve("out").toFile()).start();
        boolean ended = process.waitFor(SECONDS, TimeUnit.SECONDS);
        process.destroyForcibly().waitFor();
        return !ended || process.exitValue() != 0;
    }

    private void tryOne(Change change, int number) {
        try {
            if (!isFound(change, number)) {
                int line = (int) source.substring(0, change.from).lines().count();
                int start = source.lastIndexOf('\n', change.from) + 1;
                int end = source.indexOf('\n', change.end);
                String now = source.substring(start, change.from) + "{" + source.substring(change.from, change.end) + " -> " + change.to + "}"
                        + source.substring(change.end, end);
                alive.add(String.format("%5d: %s", line, now.trim()));
            }
        } catch (IOException | InterruptedException e) {
            alive.add("failed: " + e);
        }
    }

    public static void main(String[] args) throws Exception {
        Path room = Files.createTempDirectory("mutants");
        JavaCompiler compiler = ToolProvider.getSystemJavaCompiler();
        int rc = compiler.run(null, null, null, "-d", room.toString(), "-sourcepath", "src/test/java", SOURCE.toString(), "src/test/java/EdgesTest.java");
        if (rc != 0) {
            System.exit(1);
        }
        Mutants mutants = new Mutants(Files.readString(SOURCE), room);
        List<Change> changes = mutants.changes();
        System.out.println(changes.size() + " places to spoil");
        ExecutorService workers = Executors.newFixedThreadPool(Runtime.getRuntime().availableProcessors());
        for (int i = 0; i < changes.size(); i++) {
            int number = i;
            workers.submit(() -> mutants.tryOne(changes.get(number), number));
        }
        workers.shutdown();
        workers.awaitTermination(2, TimeUnit.HOURS);
        Collections.sort(mutants.alive);
        mutants.alive.forEach(System.out::println);
        System.out.println(mutants.alive.size() + " of " + changes.size() + " were not found");
        System.exit(0);
    }
}
