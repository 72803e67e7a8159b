import java.io.IOException;
import java.nio.file.Files;
import java.nio.file.Path;
import java.util.ArrayList;
import java.util.List;
import java.util.regex.Matcher;
import java.util.regex.Pattern;

/** Some rules of ../shared/LANGUAGE.md that can be seen in the text of the program; its path is the argument. */
public final class LanguageTest {
    /** A pattern, and why it must not be found in the code. */
    private static final String[][] BANNED = {
        {"^\\s*(import|package)\\b", "rule 1: one file without a package, no library but what is listed"},
        {"->", "rule 2: no lambda, no switch with arrows"},
        {"::", "rule 2: no method reference"},
        {"\\bcatch\\b|\\bfinally\\b|\\btry\\b", "rule 6: nothing here needs to catch"},
        {"\\bsynchronized\\b|\\bassert\\b|\\bvolatile\\b", "rule 6"},
        {"\\bextends\\s+\\w*(Exception|Error)\\b", "rule 6: no exception classes of its own"},
        {"throw new (?!(IllegalState|IllegalArgument|IndexOutOfBounds)Exception\\(\\);)", "rule 6"},
        {"\\b(float|double|Object|var|Integer|Long|Runtime|Thread|Random)\\b", "rules 3, 4 and 13"},
        {"\\bSystem\\.(?!arraycopy\\b)", "rules 4 and 13"},
        {"\\bMath\\.(?!(max|min)\\b)", "rule 4: these alone are used"},
        {"\\bwhile\\s*\\(true\\)|for\\s*\\(;;\\)", "rule 9: every loop has an end"},
        {"[^\\x00-\\x7f]", "rule 4: signs are 1 to 127"},
        {"\\bstatic (?!final\\b)[\\w\\[\\]]+ \\w+( =|;)", "rule 5: static fields are final"},
    };

    public static void main(String[] args) throws IOException {
        String path = args.length > 0 ? args[0] : "src/main/java/QueryHarbor.java";
        String code = withoutComments(Files.readString(Path.of(path)));
        for (String[] banned : BANNED) {
            Matcher found = Pattern.compile(banned[0], Pattern.MULTILINE).matcher(code);
            boolean is = found.find();
            Checks.due(banned[1] + (is ? ": " + lineAt(code, found.start()) : ""), false, is);
        }
        objectsInConstructorsAlone(code);
        shortMethods(code);
        Checks.end("LanguageTest");
    }

    private static String withoutComments(String text) {
        return text.replaceAll("(?s)/\\*.*?\\*/", "").replaceAll("//.*", "");
    }

    private static String lineAt(String code, int at) {
        int start = code.lastIndexOf('\n', at) + 1;
        int end = code.indexOf('\n', at);
        return code.substring(start, end < 0 ? code.length() : end).trim();
    }

    /** Room: only fields and constructors make objects and arrays, so that no call makes any. */
    private static void objectsInConstructorsAlone(String code) {
        for (String[] method : methods(code)) {
            boolean constructor = method[0].matches("\\s*(public )?[A-Z]\\w*\\(.*");
            boolean makes = method[1].replaceAll("throw new \\w+\\(\\);", "").contains("new ");
            Checks.due("makes an object: " + method[0].trim(), false, makes && !constructor);
        }
    }

    private static void shortMethods(String code) {
        for (String[] method : methods(code)) {
            Checks.due("longer than sixty lines: " + method[0].trim(), true, method[1].split("\n").length <= 60);
            Checks.due("more than seven parameters: " + method[0].trim(), true, method[0].split(",").length <= 7);
        }
        Checks.due("methods were found", true, methods(code).size() > 100);
    }

    /** Heads and bodies of methods and constructors, by their indentation. */
    private static List<String[]> methods(String code) {
        List<String[]> methods = new ArrayList<>();
        Pattern head = Pattern.compile("(?m)^( {4}| {8})(?!\\s)(?!(if|for|while|switch|else|return)\\b)"
                + "([^=;{}]*\\([^;{}]*\\)[^;{}=]*)\\{\\n");
        Matcher found = head.matcher(code);
        while (found.find()) {
            int end = code.indexOf("\n" + found.group(1) + "}", found.end());
            methods.add(new String[] {found.group(3).split("throws")[0], code.substring(found.end(), end)});
        }
        return methods;
    }
}
