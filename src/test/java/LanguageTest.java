import java.io.IOException;
import java.lang.reflect.Field;
import java.lang.reflect.Method;
import java.lang.reflect.Modifier;
import java.nio.file.Files;
import java.nio.file.Path;
import java.util.ArrayList;
import java.util.List;
import java.util.regex.Matcher;
import java.util.regex.Pattern;

/**
 * Those rules of ../shared/LANGUAGE.md that the text and the make of the class show; FaceTest looks at rule 1, and
 * ExceptionsTest at what a call throws.
 */
public final class LanguageTest {
    private static final Check check = new Check();
    private static final int LONGEST_METHOD = 60;
    private static final int MOST_PARAMETERS = 7;
    private static final int MOST_CLASSES = 12;
    private static final int MOST_FIELDS = 20;
    private static final int DEEPEST_CALLS = 8;
    private static final Pattern LIBRARY = Pattern.compile("Object\\.Object\\(\\)|Enum\\.Enum\\(String,int\\)"
            + "|(IllegalState|IllegalArgument|IndexOutOfBounds|Arithmetic|UnsupportedOperation|NoSuchElement|Runtime)"
            + "Exception\\.\\w+\\((String)?\\)"
            + "|String\\.((length|isEmpty|toCharArray)\\(\\)|charAt\\(int\\)|equals\\(Object\\)|indexOf\\(int\\)"
            + "|substring\\(int(,int)?\\)|String\\(char\\[\\]\\))"
            + "|StringBuilder\\.(StringBuilder\\(\\)|append\\((char|int|String)\\))"
            + "|(Abstract)?StringBuilder\\.((length|reverse|toString)\\(\\)|(charAt|setLength|deleteCharAt)\\(int\\)"
            + "|setCharAt\\(int,char\\))"
            + "|(Integer|Long|Math)\\.(?!\\w+Exact\\()\\w+\\((int|long)(,(int|long))*\\)"
            + "|System\\.arraycopy\\(.*|Arrays\\.(copyOf|copyOfRange|fill)\\((int|long|short|byte|char)\\[\\],.*");
    /** Each of these looks at the index in the same line or the one before, or is a loop up to the array's length. */
    private static final List<String> INDEXING = List.of("History.History()", "History.keep(SnowLedger.State)",
            "History.takeBack(SnowLedger.State)", "Row.at(int)", "Row.put(int,int)");
    /** Each of these looks at the divisor in the same line. */
    private static final List<String> DIVIDING = List.of("SnowLedger.meanTipHeight()", "SnowLedger.validShare()");
    /** Each of these carries a bound among its arguments. */
    private static final List<String> RECURSIVE = List.of("FlakeTable.rootOfHalf(SnowLedger.Row,int,int,int)",
            "Survey.depthBelow(SnowLedger.Row,int,int,int)");

    public static void main(String[] args) throws IOException {
        Path file = Path.of("src/main/java/SnowLedger.java");
        String source = Files.readString(file);
        String code = source.replaceAll("(?s)/\\*.*?\\*/", " ").replaceAll("//[^\n]*", " ");
        String bare = code.replaceAll("'(\\\\.|[^'])'", "' '").replaceAll("\"[^\"\n]*\"", "\"\"");
        noneOf("4 signs of constants", code, "[^\\n\\x20-\\x7e]");
        noneOf("6 words", bare, "\\b(finally|synchronized|assert|package|import static)\\b");
        noneOf("6 catches of what the machine throws", bare, "\\bcatch \\([^)]*\\b(Throwable|Error|Exception"
                + "|RuntimeException|NullPointerException|ClassCastException|NegativeArraySizeException"
                + "|ArrayStoreException|ArrayIndexOutOfBoundsException|StringIndexOutOfBoundsException)\\b");
        noneOf("2 lambdas and method references", bare, "->|::");
        noneOf("10 texts are joined by StringBuilder", bare, "\"\" *\\+|\\+ *\"\"");
        noneOf("4 imports", bare, "\\bimport (?!java\\.util\\."
                + "(Arrays|ArrayList|List|Iterator|NoSuchElementException);)[^;]*;");
        noneOf("6 throws", bare, "\\bthrow (?!new (IllegalState|IllegalArgument|IndexOutOfBounds|Arithmetic"
                + "|UnsupportedOperation|NoSuchElement|Runtime)(Exception)\\((\"\")?\\);)[^;]*;");
        noneOf("5 static fields", bare, "\\bstatic (?!final )[\\w\\[\\]]+ \\w+ *[=;]");
        noneOf("5 static initialiser blocks", bare, "\\bstatic *\\{");
        noneOf("13 clock and chance", bare, "\\b(Random|currentTimeMillis|nanoTime|Thread|getenv|getProperty)\\b");
        noneOf("9 loops without a bound", bare, "\\bwhile\\b|\\bfor \\((?![^;]*;[^;]* <=? )");
        noneOf("6 equals, hashCode and toString", bare, "\\b(boolean equals|int hashCode|String toString)\\(");
        check.due("11 longest method", true, () -> longestBlock(bare) <= LONGEST_METHOD);
        facts(new SourceFacts(file));
        sizes(SnowLedger.class);
        for (Class<?> inner : SnowLedger.class.getDeclaredClasses()) {
            sizes(inner);
        }
        check.due("11 classes", true, () -> SnowLedger.class.getDeclaredClasses().length < MOST_CLASSES);
        check.end();
    }

    private static void facts(SourceFacts facts) {
        List<String> beyond = new ArrayList<>(facts.libraryCalls());
        beyond.removeIf(call -> LIBRARY.matcher(call).matches());
        check.due("rule 4 the library", "[]", () -> beyond.toString());
        check.due("rule 7 indexes", INDEXING.toString(), () -> facts.methodsThatIndexArrays().toString());
        check.due("rule 7 divisors", DIVIDING.toString(), () -> facts.methodsThatDivideByNoConstant().toString());
        check.due("rule 8 recursion", RECURSIVE.toString(), () -> facts.methodsThatCallThemselves().toString());
        check.due("rule 11 calls, one in another", true, () -> facts.deepestCalls() <= DEEPEST_CALLS);
    }

    private static void sizes(Class<?> type) {
        int fields = 0;
        for (Field field : type.getDeclaredFields()) {
            fields += Modifier.isStatic(field.getModifiers()) ? 0 : 1;
        }
        int count = fields;
        check.due("rule 11 fields of " + type.getSimpleName(), true, () -> count <= MOST_FIELDS);
        for (Method method : type.getDeclaredMethods()) {
            check.due("rule 11 parameters of " + method, true, () -> method.getParameterCount() <= MOST_PARAMETERS);
        }
    }

    private static void noneOf(String what, String code, String forbidden) {
        List<String> found = new ArrayList<>();
        Matcher matcher = Pattern.compile(forbidden).matcher(code);
        while (matcher.find()) {
            found.add(matcher.group());
        }
        check.due("rule " + what, "[]", () -> found.toString());
    }

    /** The lines of the longest block that starts as a method does: by a closing bracket and perhaps a throws. */
    private static int longestBlock(String code) {
        Matcher start = Pattern.compile("\\)( *\\n? *throws [^{;]+)? \\{\\n").matcher(code);
        int longest = 0;
        while (start.find()) {
            int depth = 1;
            int lines = 1;
            for (int at = start.end(); depth > 0 && at < code.length(); at++) {
                char sign = code.charAt(at);
                depth += sign == '{' ? 1 : sign == '}' ? -1 : 0;
                lines += sign == '\n' ? 1 : 0;
            }
            longest = Math.max(longest, lines);
        }
        return longest;
    }
}
