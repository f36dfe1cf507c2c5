import java.io.IOException;
import java.nio.file.Files;
import java.nio.file.Path;
import java.util.Arrays;
import java.util.List;
import java.util.regex.Matcher;
import java.util.regex.Pattern;

/** What LANGUAGE.md asks of the program's text, as far as the text alone tells; SonsLotFace looks at its members. */
public final class SonsLotLanguage {
    private static final Path SOURCE = Path.of("src/main/java/SonsLot.java");

    private static final List<String> EXCEPTIONS = Arrays.asList("IllegalStateException", "IllegalArgumentException",
        "IndexOutOfBoundsException", "ArithmeticException", "UnsupportedOperationException", "NoSuchElementException",
        "RuntimeException");

    private static final List<String> IMPORTS = Arrays.asList("java.util.NoSuchElementException", "java.util.ArrayList",
        "java.util.List", "java.util.Arrays", "java.util.Iterator");

    private static int wrong = 0;

    public static void main(String[] args) throws IOException {
        String text = Files.readString(SOURCE);
        String code = withoutComments(text);
        due("signs 1 to 127 alone", text.chars().allMatch(c -> c > 0 && c < 128));
        imports(code);
        words(code);
        library(code);
        exceptions(code);
        lengths(code);
        System.out.println(wrong == 0 ? "the program's text is as due" : wrong + " of the text are not as due");
        if (wrong != 0) {
            System.exit(1);
        }
    }

    private static void due(String what, boolean holds) {
        if (!holds) {
            wrong++;
            System.out.println("not as due: " + what);
        }
    }

    private static String withoutComments(String text) {
        return text.replaceAll("(?s)/\\*.*?\\*/", "").replaceAll("//[^\n]*", "");
    }

    private static void imports(String code) {
        due("rule 1: no package", !Pattern.compile("^package\\b", Pattern.MULTILINE).matcher(code).find());
        Matcher m = Pattern.compile("^import (.*);", Pattern.MULTILINE).matcher(code);
        while (m.find()) {
            due("rule 4: import " + m.group(1), IMPORTS.contains(m.group(1)));
        }
    }

    private static void words(String code) {
        String[] never = {"finally", "synchronized", "assert", "try", "catch", "volatile", "native", "transient", "double",
            "float", "var", "yield", "hashCode", "getMessage", "Object", "Thread", "Random"};
        for (String word : never) {
            due("no " + word, !Pattern.compile("\\b" + word + "\\b").matcher(code).find());
        }
        due("rule 2: no lambda", !code.contains("->"));
        due("rule 2: no method reference", !code.contains("::"));
        due("rule 5: no static block", !Pattern.compile("static\\s*\\{").matcher(code).find());
        due("rule 10: no texts joined by +", !Pattern.compile("\"\\s*\\+|\\+\\s*\"").matcher(code).find());
    }

    private static void library(String code) {
        List<String> known = Arrays.asList("Math.max", "Math.min", "Math.abs", "Math.floorMod", "Integer.bitCount",
            "Integer.MAX_VALUE", "Long.MIN_VALUE", "Long.MAX_VALUE", "System.arraycopy");
        Matcher m = Pattern.compile("\\b(Math|Integer|Long|System|Arrays|String|Character|Short|Byte)\\.\\w+").matcher(code);
        while (m.find()) {
            due("rule 4: " + m.group(), known.contains(m.group()));
        }
    }

    private static void exceptions(String code) {
        Matcher m = Pattern.compile("\\bthrow\\b([^;]*);").matcher(code);
        while (m.find()) {
            Matcher made = Pattern.compile(" new (\\w+)\\((\"[^\"]*\")?\\)").matcher(m.group(1));
            due("rule 6: throw" + m.group(1), made.matches() && EXCEPTIONS.contains(made.group(1)));
        }
    }

    /** A method begins with four or eight blanks and ends with a brace below its first letter. */
    private static void lengths(String code) {
        String[] lines = code.split("\n", -1);
        Pattern head = Pattern.compile("^( {4}| {8})(?! )(?!.*\\b(class|record|enum|interface)\\b)[^=;]*\\([^;]*$");
        for (int i = 0; i < lines.length; i++) {
            Matcher m = head.matcher(lines[i]);
            boolean control = Pattern.compile("^\\s*(if|for|while|switch|\\}|case|return|do)\\b").matcher(lines[i]).find();
            if (!m.find() || control) {
                continue;
            }
            int last = i;
            while (last + 1 < lines.length && !lines[last].equals(m.group(1) + "}")) {
                last++;
            }
            due("rule 11: " + lines[i].trim() + " has " + (last - i + 1) + " lines", last - i + 1 <= 60);
        }
    }
}
