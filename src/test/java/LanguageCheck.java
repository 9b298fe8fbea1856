import java.lang.reflect.Field;
import java.lang.reflect.Method;
import java.lang.reflect.Modifier;
import java.nio.file.Files;
import java.nio.file.Path;
import java.util.Set;
import java.util.TreeSet;
import java.util.regex.Matcher;
import java.util.regex.Pattern;

/** Rules of LANGUAGE.md that a program can look at: the face, words that may not stand, sizes. */
public final class LanguageCheck {
    private static int wrong = 0;

    private static final String FACE = "after(5) answer(6) back(1) bend(2) bestPoint(4) blow(3) bought(2) cheapest(4) cock(2) "
            + "count(1) end(1) explained(3) feed(5) fell(2) felled(4) image(1) law(0) lee(2) lot(0) morning(0) oil(1) "
            + "oiled(5) rusts(2) says(1) seed(1) swings(4) tree(2) trueWind(3) valley(0) vote(1) worth(2) years(6)";
    private static final String[] FORBIDDEN = {"throw", "throws", "try", "catch", "synchronized", "assert", "import", "package",
        "protected", "while", "volatile", "transient", "native", "var", "Object", "super", "extends", "finally", "\\w+Exact",
        "hashCode", "toString", "getClass", "System\\.(?!arraycopy)\\w+", "double", "float"};

    private static void must(boolean holds, String rule) {
        if (!holds) {
            wrong++;
            System.out.println("LanguageCheck: " + rule);
        }
    }

    private static void face() {
        Set<String> names = new TreeSet<>();
        Set<String> publics = new TreeSet<>();
        for (Method m : MostCocks.class.getDeclaredMethods()) {
            if (m.isSynthetic()) continue;
            boolean isPublic = Modifier.isPublic(m.getModifiers());
            if (isPublic) names.add(m.getName() + "(" + m.getParameterCount() + ")");
            if (isPublic) publics.add(m.getName());
            must(isPublic || Modifier.isPrivate(m.getModifiers()), "neither public nor private: " + m);
        }
        must(String.join(" ", names).equals(FACE), "the face is " + names);
        for (Field f : MostCocks.class.getDeclaredFields()) {
            must(Modifier.isPrivate(f.getModifiers()) || f.getName().equals("NONE"), "field " + f);
        }
        must(Modifier.isFinal(MostCocks.class.getModifiers()), "the class is final");
        must(MostCocks.class.getDeclaredConstructors().length == 1, "one constructor");
        must(MostCocks.class.getDeclaredClasses().length <= 11, "twelve classes at most");
        inside(MostCocks.class, Set.of());
        for (Class<?> c : MostCocks.class.getDeclaredClasses()) inside(c, publics);
    }

    private static void inside(Class<?> c, Set<String> publics) {
        must(c == MostCocks.class || Modifier.isStatic(c.getModifiers()), c + " is static");
        int fields = 0;
        for (Field f : c.getDeclaredFields()) {
            if (f.isSynthetic()) continue;
            boolean isStatic = Modifier.isStatic(f.getModifiers());
            if (!isStatic) fields++;
            must(!isStatic || Modifier.isFinal(f.getModifiers()), f + " is static and not final");
        }
        must(fields <= 20, c + " has " + fields + " fields");
        for (Method m : c.getDeclaredMethods()) {
            must(m.getParameterCount() <= 7, m + " takes too much");
            must(!publics.contains(m.getName()), m + " bears a public name");
        }
    }

    private static void source(String text) {
        String code = text.replaceAll("(?s)/\\*.*?\\*/", "").replaceAll("//[^\n]*", "").replaceAll("\"[^\"\n]*\"", "\"\"");
        for (String word : FORBIDDEN) {
            Matcher m = Pattern.compile("\\b" + word + "\\b").matcher(code);
            must(!m.find(), "the word " + word + " stands there");
        }
        must(!code.contains("->") && !code.contains("::"), "a lambda or a method reference");
        for (char sign : text.toCharArray()) must(sign == '\n' || sign >= 32 && sign < 127, "the sign " + (int) sign);
        Matcher method = Pattern.compile("(?m)^( +)[a-zA-Z][^;=\n]*\\) \\{$").matcher(text);
        while (method.find()) {
            int stop = text.indexOf("\n" + method.group(1) + "}", method.start());
            long lines = text.substring(method.start(), stop).lines().count();
            must(lines <= 60, lines + " lines from " + method.group().trim());
        }
    }

    public static void main(String[] args) throws Exception {
        face();
        source(Files.readString(Path.of(args[0])));
        System.out.println(wrong == 0 ? "LanguageCheck: all is in order" : "LanguageCheck: " + wrong + " faults");
        if (wrong != 0) System.exit(1);
    }
}
