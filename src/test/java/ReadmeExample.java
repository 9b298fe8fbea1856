import java.nio.charset.StandardCharsets;
import java.nio.file.Files;
import java.nio.file.Path;
import java.util.regex.Matcher;
import java.util.regex.Pattern;

/**
 * Prints a test, ReadmeRun, made of the Java that README.md shows: each call there must answer the number that stands
 * behind it. Use: java -cp CLASSES ReadmeExample README.md
 */
public final class ReadmeExample {
    private static final Pattern BLOCK = Pattern.compile("```java\n(.*?)```", Pattern.DOTALL);
    private static final Pattern ANSWERED = Pattern.compile("(?m)^(x\\..*?\\));\\s*// (-?\\d+).*$");

    private static String tested(String statements) {
        return ANSWERED.matcher(statements).replaceAll(found -> Matcher.quoteReplacement(
                "due(\"" + found.group(1) + "\", " + found.group(1) + ", " + found.group(2) + ");"));
    }

    public static void main(String[] args) throws Exception {
        String readme = Files.readString(Path.of(args[0]), StandardCharsets.UTF_8);
        StringBuilder members = new StringBuilder();
        StringBuilder statements = new StringBuilder();
        Matcher block = BLOCK.matcher(readme);
        while (block.find()) {
            String code = block.group(1);
            (code.startsWith("static") ? members : statements).append(code);
        }
        System.out.println("public final class ReadmeRun {\nstatic int wrong = 0, looks = 0;");
        System.out.println("static void due(String call, int got, int want) {\nlooks++;\nif (got == want) return;");
        System.out.println("wrong++;\nSystem.out.println(call + \" answered \" + got + \", README.md says \" + want);\n}");
        System.out.println(members);
        System.out.println("public static void main(String[] args) {\n" + tested(statements.toString()));
        System.out.println("System.out.println(\"README.md: \" + looks + \" answers, \" + wrong + \" wrong\");");
        System.out.println("if (wrong != 0 || looks == 0) System.exit(1);\n}\n}");
    }
}
