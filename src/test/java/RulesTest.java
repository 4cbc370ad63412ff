import java.io.IOException;
import java.nio.file.Files;
import java.nio.file.Path;
import java.util.regex.Matcher;
import java.util.regex.Pattern;

/** What of the rules in ../shared/LANGUAGE.md can be seen in the source by its signs. */
public final class RulesTest {
    private static final Path SOURCE = Path.of("src/main/java/PeeledHash.java");
    private static final String[] NEVER = {"\\bthrow\\b", "\\bthrows\\b", "\\btry\\b", "\\bcatch\\b", "\\bsynchronized\\b",
        "\\bassert\\b", "->", "::", "\\bpackage\\b", "\\bprotected\\b", "\\bObject\\b", "\\bHashMap\\b", "Exact\\b",
        "\\bequals\\b", "\\bhashCode\\b", "\\btoString\\b", "\\bdouble\\b", "\\bfloat\\b", "\\bThread\\b", "\\bRandom\\b",
        "\\bstatic\\s*\\{", "\\bvar\\b", "\\[\\]\\s*\\[\\]", "\\bformat\\b", "\"\\s*\\+", "\\+\\s*\"", "while \\(true\\)",
        "for \\(;;"};
    private static final Pattern METHOD = Pattern.compile("(?m)^( {8}| {4})(?! |return|else|new)[\\w\\[\\] ]+ (\\w+)\\(([^)]*)\\) \\{$");

    public static void main(String[] args) throws IOException {
        Checks checks = new Checks();
        String whole = Files.readString(SOURCE);
        String code = whole.replaceAll("(?s)/\\*.*?\\*/", "").replaceAll("//[^\n]*", "");
        for (String sign : NEVER) {
            Matcher matcher = Pattern.compile(sign).matcher(code);
            checks.due("the sign " + sign, matcher.find() ? 1 : 0, 0);
        }
        checks.due("signs beyond 126", whole.chars().filter(sign -> sign > 126).count(), 0);
        Matcher imports = Pattern.compile("(?m)^import (.*);$").matcher(code);
        while (imports.find()) {
            checks.due("import " + imports.group(1), imports.group(1).equals("java.util.Arrays") ? 1 : 0, 1);
        }
        Matcher library = Pattern.compile("\\b(System|Arrays|Math|Integer|Long)\\.(\\w+)").matcher(code);
        while (library.find()) {
            checks.due(library.group(), library.group().matches(
                    "System.arraycopy|Arrays.fill|Math.(min|max|floorMod)|Integer.M(IN|AX)_VALUE") ? 1 : 0, 1);
        }
        Matcher statics = Pattern.compile("(?m)^ *(private |public )?static (?!final)[^(]*;$").matcher(code);
        checks.due("static fields that are not final", statics.find() ? 1 : 0, 0);
        checks.due("classes", Pattern.compile("\\bclass \\w+ \\{").matcher(code).results().count() <= 12 ? 1 : 0, 1);
        methods(checks, code);
        checks.finish("RulesTest");
    }

    private static void methods(Checks checks, String code) {
        Matcher matcher = METHOD.matcher(code);
        int found = 0;
        while (matcher.find()) {
            found++;
            String close = "\n" + matcher.group(1) + "}";
            int end = code.indexOf(close, matcher.end());
            long lines = code.substring(matcher.start(), end).lines().count() + 1;
            checks.due("lines of " + matcher.group(2) + ": " + lines, lines <= 60 ? 1 : 0, 1);
            int parameters = matcher.group(3).isEmpty() ? 0 : matcher.group(3).split(",").length;
            checks.due("parameters of " + matcher.group(2), parameters <= 7 ? 1 : 0, 1);
        }
        checks.due("methods were found: " + found, found > 100 ? 1 : 0, 1);
    }
}
