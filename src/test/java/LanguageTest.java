import java.io.IOException;
import java.nio.file.Files;
import java.nio.file.Path;
import java.util.List;
import java.util.regex.Matcher;
import java.util.regex.Pattern;

/** What of ../shared/LANGUAGE.md can be read off the text of the program. */
public final class LanguageTest {
    private static final String[] NEVER = {
        "\\bthrow\\b", "\\bthrows\\b", "\\btry\\b", "\\bcatch\\b", "\\bfinally\\b", "\\bsynchronized\\b", "\\bassert\\b",
        "->", "::", "\\bprotected\\b", "\\bpackage\\b", "\\bstatic\\s*\\{", "\\bThread\\b", "\\bSystem\\.(?!arraycopy)",
        "\\bRandom\\b", "\\brandom\\b", "Exact\\b", "\\bString\\.", "\\bObject\\b", "\\bvolatile\\b", "\\btransient\\b",
        "\\bnative\\b", "\\bstrictfp\\b", "@", "\\bextends\\b", "\\bimplements\\b", "\\bequals\\b", "\\bhashCode\\b",
        "\\btoString\\b", "\\bObjects\\b", "\\bdouble\\b", "\\bfloat\\b", "\\bvar\\b", "\\byield\\b",
        "\\b(?:Integer|Long|Math|Arrays)\\.(?!bitCount|max|min|floorMod|fill\\b)",
    };
    private static int wrong;

    private static void claim(boolean good, String what) {
        if (!good) {
            wrong++;
            System.out.println("not so: " + what);
        }
    }

    public static void main(String[] args) throws IOException {
        List<String> lines = Files.readAllLines(Path.of("src/main/java/RoomTrees.java"));
        StringBuilder code = new StringBuilder();
        int began = 0;
        for (int i = 0; i < lines.size(); i++) {
            String line = lines.get(i);
            claim(line.chars().allMatch(c -> c >= 32 && c < 127), "plain signs in line " + (i + 1));
            claim(line.length() <= 120, "at most 120 signs in line " + (i + 1));
            String bare = line.replaceAll("//.*", "").replaceAll("^\\s*(/\\*\\*|\\*).*", "");
            code.append(bare).append('\n');
            if (bare.matches(" {4}(?: {4})?[\\w ]+\\(.*\\{")) {
                began = i;
            }
            if (bare.matches(" {4}(?: {4})?\\}")) {
                claim(i - began < 60, "some sixty lines in the method that ends in line " + (i + 1));
            }
        }
        for (String never : NEVER) {
            Matcher m = Pattern.compile(never).matcher(code);
            claim(!m.find(), "never " + never);
        }
        Matcher imports = Pattern.compile("(?m)^import (.*);$").matcher(code);
        while (imports.find()) {
            claim(imports.group(1).equals("java.util.Arrays"), "no import of " + imports.group(1));
        }
        Matcher statics = Pattern.compile("(?m)^ *(?:private )?static (?!final|[\\w<>\\[\\]]+ \\w+\\().*$").matcher(code);
        while (statics.find()) {
            claim(false, "a static that is not final: " + statics.group().trim());
        }
        System.out.println(wrong == 0 ? "the language is kept" : "the language is not kept");
        if (wrong != 0) {
            System.exit(1);
        }
    }
}
