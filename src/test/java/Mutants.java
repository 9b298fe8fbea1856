import java.io.ByteArrayOutputStream;
import java.io.OutputStream;
import java.io.PrintStream;
import java.io.StringWriter;
import java.net.URI;
import java.net.URL;
import java.net.URLClassLoader;
import java.nio.file.Files;
import java.nio.file.Path;
import java.util.ArrayList;
import java.util.HashMap;
import java.util.List;
import java.util.Map;
import java.util.concurrent.ExecutorService;
import java.util.concurrent.Executors;
import java.util.concurrent.TimeUnit;
import java.util.regex.Matcher;
import java.util.regex.Pattern;
import javax.tools.FileObject;
import javax.tools.ForwardingJavaFileManager;
import javax.tools.JavaCompiler;
import javax.tools.JavaFileManager;
import javax.tools.JavaFileObject;
import javax.tools.SimpleJavaFileObject;
import javax.tools.ToolProvider;

/**
 * Looks whether the tests of sentences and Traces bite: changes the program by one sign, number or line at a time, and
 * names the changes that none of them finds. Not a part of .ci/run, as some changes change nothing that can be asked.
 * Use: java -cp CLASSES Mutants SOURCE CLASSES
 */
public final class Mutants {
    private static final int SECONDS = 20;
    private static final String[] TESTS = {"TextSentences", "HourSentences", "VoteSentences", "WindSentences", "DrawSentences", "Traces"};
    private static final String[][] CHANGES = {
        {" < ", " <= "}, {" <= ", " < "}, {" > ", " >= "}, {" >= ", " > "}, {" == ", " != "}, {" != ", " == "},
        {" && ", " || "}, {" \\|\\| ", " && "}, {" \\+ ", " - "}, {" - ", " + "}, {" \\* ", " + "}, {" / ", " * "},
        {" % ", " / "}, {" & ", " | "}, {" \\| ", " & "}, {" << ", " >> "}, {" >> ", " << "}, {" \\+= ", " -= "},
        {"\\+\\+;", "--;"}, {"!(?=[a-zA-Z(])", ""}, {"\\btrue\\b", "false"}, {"\\bfalse\\b", "true"},
        {"Math\\.min", "Math.max"}, {"Math\\.max", "Math.min"},
    };

    private record Mutant(int line, String text, String source) { }

    private static List<Mutant> mutants(String source) {
        List<Mutant> all = new ArrayList<>();
        String[] lines = source.split("\n");
        for (int i = 0; i < lines.length; i++) {
            String line = lines[i];
            if (line.trim().startsWith("/*") || line.trim().startsWith("*") || line.trim().startsWith("//")) continue;
            for (String[] change : CHANGES) replaced(all, lines, i, change[0], change[1]);
            Matcher number = Pattern.compile("(?<![\\w'\"])\\d+(?![\\w'\"])").matcher(line);
            while (number.find()) {
                long n = Long.parseLong(number.group());
                for (long other : new long[] {n + 1, n - 1}) {
                    add(all, lines, i, line.substring(0, number.start()) + other + line.substring(number.end()));
                }
            }
            Matcher when = Pattern.compile("^( +(?:\\} else )?if \\()(.*)(\\) \\{)$").matcher(line);
            if (when.find()) add(all, lines, i, when.group(1) + "!(" + when.group(2) + ")" + when.group(3));
            if (line.matches(" {8,}(?!return|int |long |boolean |static |private |final |case |break|continue|default|for )[^\"]*[\\w\\]\\)+];")) {
                add(all, lines, i, line.replaceAll("\\S.*", ";"));
            }
        }
        return all;
    }

    private static void replaced(List<Mutant> all, String[] lines, int i, String from, String to) {
        Matcher m = Pattern.compile(from).matcher(lines[i]);
        while (m.find()) add(all, lines, i, lines[i].substring(0, m.start()) + to + lines[i].substring(m.end()));
    }

    private static void add(List<Mutant> all, String[] lines, int i, String text) {
        String[] other = lines.clone();
        other[i] = text;
        all.add(new Mutant(i + 1, text.trim(), String.join("\n", other)));
    }

    /** Keeps what is compiled in memory. */
    private static final class Kept extends ForwardingJavaFileManager<JavaFileManager> {
        final Map<String, ByteArrayOutputStream> classes = new HashMap<>();

        Kept(JavaFileManager manager) {
            super(manager);
        }

        @Override
        public JavaFileObject getJavaFileForOutput(Location place, String name, JavaFileObject.Kind kind, FileObject from) {
            return new SimpleJavaFileObject(URI.create("mem:///" + name + ".class"), kind) {
                @Override
                public OutputStream openOutputStream() {
                    ByteArrayOutputStream bytes = new ByteArrayOutputStream();
                    classes.put(name, bytes);
                    return bytes;
                }
            };
        }
    }

    private static Map<String, ByteArrayOutputStream> compiled(String source) {
        JavaCompiler compiler = ToolProvider.getSystemJavaCompiler();
        Kept kept = new Kept(compiler.getStandardFileManager(null, null, null));
        JavaFileObject file = new SimpleJavaFileObject(URI.create("mem:///MostCocks.java"), JavaFileObject.Kind.SOURCE) {
            @Override
            public CharSequence getCharContent(boolean ignored) {
                return source;
            }
        };
        boolean done = compiler.getTask(new StringWriter(), kept, d -> { },
                null, null, List.of(file)).call();
        return done ? kept.classes : null;
    }

    /** The program comes from memory, the tests from their folder, all of them new for each mutant. */
    private static final class Loader extends URLClassLoader {
        private final Map<String, ByteArrayOutputStream> classes;

        Loader(URL tests, Map<String, ByteArrayOutputStream> classes) {
            super(new URL[] {tests}, ClassLoader.getPlatformClassLoader());
            this.classes = classes;
        }

        @Override
        protected Class<?> findClass(String name) throws ClassNotFoundException {
            ByteArrayOutputStream bytes = classes.get(name);
            if (bytes == null) return super.findClass(name);
            return defineClass(name, bytes.toByteArray(), 0, bytes.size());
        }
    }

    private static boolean isFound(Map<String, ByteArrayOutputStream> classes, URL tests) throws Exception {
        boolean[] silent = {false};
        try (Loader loader = new Loader(tests, classes)) {
            Thread run = new Thread(() -> silent[0] = passes(loader));
            run.setDaemon(true);
            run.start();
            run.join(TimeUnit.SECONDS.toMillis(SECONDS));
            if (run.isAlive()) stop(run);
        }
        return !silent[0];
    }

    private static boolean passes(ClassLoader loader) {
        try {
            for (String tests : TESTS) {
                var all = loader.loadClass(tests).getDeclaredMethod("all");
                all.setAccessible(true);
                all.invoke(null);
                var wrong = loader.loadClass("Bench").getDeclaredField("wrong");
                wrong.setAccessible(true);
                if (wrong.getInt(null) != 0) return false;
            }
            return true;
        } catch (ReflectiveOperationException | LinkageError found) {
            return false;
        }
    }

    @SuppressWarnings({"deprecation", "removal"})
    private static void stop(Thread run) {
        run.stop();
    }

    public static void main(String[] args) throws Exception {
        List<Mutant> all = mutants(Files.readString(Path.of(args[0])));
        URL tests = Path.of(args[1]).toUri().toURL();
        PrintStream out = System.out;
        System.setOut(new PrintStream(OutputStream.nullOutputStream()));
        ExecutorService pool = Executors.newFixedThreadPool(Runtime.getRuntime().availableProcessors());
        int[] counts = new int[2];
        for (Mutant m : all) {
            pool.submit(() -> {
                Map<String, ByteArrayOutputStream> classes = compiled(m.source);
                if (classes == null) return null;
                boolean found = isFound(classes, tests);
                synchronized (counts) {
                    counts[0]++;
                    if (!found) {
                        counts[1]++;
                        out.println(m.line + ": " + m.text);
                    }
                }
                return null;
            });
        }
        pool.shutdown();
        pool.awaitTermination(1, TimeUnit.HOURS);
        out.println("Mutants: of " + counts[0] + " " + counts[1] + " are not found");
    }
}
