import java.io.IOException;
import java.nio.file.Files;
import java.nio.file.Path;
import java.util.Arrays;
import java.util.List;
import java.util.Set;
import java.util.TreeSet;
import java.util.regex.Matcher;
import java.util.regex.Pattern;

/** LANGUAGE.md's rules as far as the class's own lines tell them; FaceTest and RoomTest hold others. */
public final class RulesTest {
    private static final int MOST_LINES = 60;
    private static final Set<String> LIBRARY = Set.of("String", "StringBuilder", "Integer", "Long", "Math", "ArrayList", "List",
        "Iterator", "Iterable", "Comparable", "System", "Arrays");
    private static final Set<String> EXCEPTIONS = Set.of("IllegalStateException", "IllegalArgumentException",
        "IndexOutOfBoundsException", "ArithmeticException", "UnsupportedOperationException", "NoSuchElementException",
        "RuntimeException");
    private static final List<String> FORBIDDEN = List.of("package", "synchronized", "assert", "finally", "native", "volatile",
        "transient", "strictfp", "protected", "hashCode", "String toString", "getMessage");
    private static final Bench bench = new Bench("RulesTest");

    public static void main(String[] args) throws IOException {
        String source = Files.readString(Path.of(System.getProperty("source", "src/main/java/DollTruce.java")));
        bench.due("all signs are 1 to 127", source.chars().allMatch(sign -> sign >= 1 && sign <= 127), true);
        String code = withoutComments(source);
        bench.sentence("10: texts are not joined by +");
        bench.due("a + beside a text", has(code, "\"\\s*\\+|\\+\\s*\""), false);
        String bare = code.replaceAll("\"(\\\\.|[^\"\\\\])*\"", "\"\"").replaceAll("'(\\\\.|[^'\\\\])'", "' '");
        bench.sentence("1, 2 and 6: what may not stand there");
        for (String word : FORBIDDEN) {
            bench.due(word, has(bare, "\\b" + word + "\\b"), false);
        }
        bench.due("a lambda or a method reference", has(bare, "->|::"), false);
        bench.due("a static block", has(bare, "static\\s*\\{"), false);
        libraryIsListed(bare);
        exceptionsAreListed(bare);
        methodsAreShort(bare);
        bench.end();
    }

    private static boolean has(String code, String pattern) {
        return Pattern.compile(pattern).matcher(code).find();
    }

    private static String withoutComments(String source) {
        return Pattern.compile("/\\*.*?\\*/", Pattern.DOTALL).matcher(source).replaceAll("").replaceAll("//[^\n]*", "");
    }

    private static Set<String> found(String code, String pattern) {
        Set<String> found = new TreeSet<>();
        Matcher matcher = Pattern.compile(pattern).matcher(code);
        while (matcher.find()) {
            found.add(matcher.group(1));
        }
        return found;
    }

    private static void libraryIsListed(String code) {
        bench.sentence("4: only what stands here");
        Set<String> own = found(code, "\\b(?:class|record|enum|interface)\\s+(\\w+)");
        for (String type : found(code, "\\b([A-Z]\\w*[a-z]\\w*)\\b")) {
            bench.due(type, own.contains(type) || LIBRARY.contains(type) || EXCEPTIONS.contains(type), true);
        }
        for (String call : found(code, "\\b(?:Math|Integer|Long)\\.(\\w+)")) {
            bench.due(call, call.endsWith("Exact"), false);
        }
        for (String call : found(code, "\\b(?:System|Arrays)\\.(\\w+)")) {
            bench.due(call, Set.of("arraycopy", "copyOf", "copyOfRange", "fill").contains(call), true);
        }
        for (String brought : found(code, "\\bimport\\s+([\\w.*]+);")) {
            String type = brought.substring(brought.lastIndexOf('.') + 1);
            bench.due(brought, brought.equals("java.util." + type) && !type.equals("*"), true);
        }
    }

    private static void exceptionsAreListed(String code) {
        bench.sentence("6: throw new E() or throw new E(\"a written text\")");
        bench.due("every throw", found(code, "\\bthrow\\b\\s*(.{0,60})").stream()
            .allMatch(thrown -> EXCEPTIONS.stream().anyMatch(e -> thrown.matches("new " + e + "\\((\"\")?\\);.*"))), true);
    }

    /** From a line that ends a method's head to the line that closes it, as far in as it began. */
    private static void methodsAreShort(String code) {
        bench.sentence("11: methods stay short");
        List<String> lines = Arrays.asList(code.split("\n", -1));
        int methods = 0;
        for (int from = 0; from < lines.size(); from++) {
            Matcher head = Pattern.compile("^( {4}| {8})\\w[\\w\\[\\]<>, ]*\\(.*\\).*\\{$").matcher(lines.get(from));
            if (head.find()) {
                int to = from + lines.subList(from, lines.size()).indexOf(head.group(1) + "}");
                boolean isMethod = !lines.get(from).trim().matches("(if|for|while|switch|else|do)\\b.*");
                if (isMethod) {
                    methods++;
                    bench.due(lines.get(from).trim() + " has " + (to - from + 1) + " lines", to > from && to - from < MOST_LINES, true);
                }
            }
        }
        bench.due("methods were found", methods > 39, true);
    }
}
