import java.io.IOException;
import java.nio.file.Files;
import java.nio.file.Path;
import java.util.regex.Matcher;
import java.util.regex.Pattern;

/** What a look at the source shows of the rules of LANGUAGE.md. */
public final class LanguageTest {
    private static final Check check = new Check("LanguageTest");

    public static void main(String[] args) throws IOException {
        String path = args.length > 0 ? args[0] : "src/main/java/MarbleHeirs.java";
        String source = Files.readString(Path.of(path));
        String code = source.replaceAll("(?s)/\\*.*?\\*/", "").replaceAll("//[^\n]*", "")
                .replaceAll("'.'", "' '");
        words(code);
        library(code);
        staticFields(code);
        methods(code);
        noNewInLoops(code);
        check.end();
    }

    private static void words(String code) {
        check.topic("words");
        String[] forbidden = {"package", "import", "throw", "throws", "try", "catch", "finally",
            "synchronized", "assert", "instanceof", "record", "var", "native", "volatile",
            "protected", "float", "double", "this", "super", "extends", "implements"};
        for (String word : forbidden) {
            check.holds("the word " + word + " is not used",
                    !Pattern.compile("\\b" + word + "\\b").matcher(code).find());
        }
        check.holds("there is no lambda", !code.contains("->"));
        check.holds("there is no method reference", !code.contains("::"));
        check.holds("there is no text", !code.contains("\""));
    }

    private static void library(String code) {
        check.topic("library");
        Matcher use = Pattern.compile("\\b(String|StringBuilder|Integer|Long|Math|System|Arrays|List"
                + "|ArrayList|Character|Object)\\b(\\.\\w+)?").matcher(code);
        while (use.find()) {
            boolean listed = use.group().matches("Math\\.(min|max|abs)|System\\.arraycopy");
            check.holds(use.group() + " is listed", listed);
        }
    }

    private static void staticFields(String code) {
        check.topic("static fields");
        for (String line : code.split("\n")) {
            if (line.matches(".*\\bstatic\\b.*(=|;).*") && !line.contains("(")) {
                check.holds("it is a constant: " + line.trim(),
                        line.matches(" *(public|private) static final int [A-Z_0-9]+ = [^;]+;"));
            }
        }
    }

    private static void methods(String code) {
        check.topic("methods");
        Matcher method = Pattern.compile("(?ms)^( {4}| {8})(?! )[\\w\\[\\] ]+\\(([^)]*)\\) \\{$(.*?)^\\1\\}")
                .matcher(code);
        int count = 0;
        while (method.find()) {
            count++;
            String head = method.group().split("\n")[0].trim();
            check.holds(head + " is short", method.group(3).split("\n").length <= 60);
            check.holds(head + " takes at most seven arguments",
                    method.group(2).split(",").length <= 7);
        }
        check.holds("the methods are found", count > 60);
    }

    /** Arrays and objects are made by fields and by constructors alone. */
    private static void noNewInLoops(String code) {
        check.topic("objects");
        Matcher made = Pattern.compile("(?m)^.*\\bnew\\b.*$").matcher(code);
        while (made.find()) {
            String line = made.group().trim();
            boolean field = line.matches("(private )?final [\\w\\[\\]]+ \\w+ = new .*;");
            boolean face = line.matches("(now|trial|saved|past|text|best) = new \\w+\\(\\);");
            boolean past = line.equals("states[i] = new State();");
            check.holds("it is made once: " + line, field || face || past);
        }
    }
}
