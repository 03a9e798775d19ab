import java.io.IOException;
import java.lang.reflect.Field;
import java.lang.reflect.Modifier;
import java.nio.file.Files;
import java.nio.file.Path;
import java.util.TreeSet;
import java.util.regex.Matcher;
import java.util.regex.Pattern;

/** What LANGUAGE.md rules out and a look at the source can tell. */
public final class LanguageTest {
    private static final Due DUE = new Due("LanguageTest");

    public static void main(String[] args) throws IOException {
        String source = Files.readString(Path.of("src/main/java/LettersThatPass.java"));
        String code = source.replaceAll("(?s)/\\*.*?\\*/", " ").replaceAll("//[^\n]*", " ");
        String[] ruledOut = {"\\bthrow\\b", "\\btry\\b", "\\bcatch\\b", "\\bsynchronized\\b", "\\bassert\\b", "->", "::",
            "\\bimport\\b", "\\bpackage\\b", "Exact\\b", "\\bprotected\\b", "\\bSystem\\.(?!arraycopy)", "\\bhashCode\\b",
            "\\btoString\\b", "\\bfloat\\b", "\\bdouble\\b", "\\[\\]\\[\\]\\["};
        for (String pattern : ruledOut) {
            Matcher matcher = Pattern.compile(pattern).matcher(code);
            DUE.is("stands in the source: " + pattern, matcher.find() ? 1 : 0, 0);
        }
        for (int k = 0; k < source.length(); k++) {
            DUE.is("a sign above 126", Math.max(source.charAt(k), 126), 126);
        }
        methodsAreShort(source.split("\n"));
        nothingIsMadeByCalls(code);
        libraryIsTheListedOne(code);
        staticFieldsAreConstants(LettersThatPass.class);
        DUE.end();
    }

    /** Of Integer, Long and Math functions alone are listed, not their constants; no other class of the library is used. */
    private static void libraryIsTheListedOne(String code) {
        TreeSet<String> own = new TreeSet<>();
        own.add(LettersThatPass.class.getSimpleName());
        for (Class<?> one : LettersThatPass.class.getDeclaredClasses()) {
            own.add(one.getSimpleName());
        }
        Matcher name = Pattern.compile("\\b([A-Z]\\w*[a-z]\\w*)\\b(\\.\\w+\\(?)?").matcher(code);
        while (name.find()) {
            boolean listed = name.group().matches("(Integer|Long|Math)\\.[a-z]\\w*\\(");
            DUE.is("rule 4: " + name.group(), listed || own.contains(name.group(1)) ? 1 : 0, 1);
        }
    }

    private static void staticFieldsAreConstants(Class<?> one) {
        for (Field field : one.getDeclaredFields()) {
            boolean constant = Modifier.isFinal(field.getModifiers()) && field.getType().isPrimitive();
            DUE.is("rule 5: " + field, !Modifier.isStatic(field.getModifiers()) || constant ? 1 : 0, 1);
        }
        for (Class<?> inside : one.getDeclaredClasses()) {
            staticFieldsAreConstants(inside);
        }
    }

    private static void methodsAreShort(String[] lines) {
        for (int indent = 4; indent <= 8; indent += 4) {
            int start = -1;
            for (int k = 0; k < lines.length; k++) {
                if (lines[k].matches(" {" + indent + "}\\w.*\\) \\{")) {
                    start = k;
                }
                if (start >= 0 && lines[k].equals(" ".repeat(indent) + "}")) {
                    DUE.is("at most sixty lines: " + lines[start].trim(), Math.max(k - start + 1, 60), 60);
                    start = -1;
                }
            }
        }
    }

    /** Rows are made with the object alone, so that no run of calls can fill the room. */
    private static void nothingIsMadeByCalls(String code) {
        Matcher matcher = Pattern.compile("\\n( *)([^\\n]*\\bnew\\b[^\\n]*)").matcher(code);
        while (matcher.find()) {
            String line = matcher.group(2);
            boolean field = line.startsWith("private final ");
            boolean inConstructor = line.matches("(cells|rows\\[k\\]|earlier\\[k\\]) = new .*");
            DUE.is("made by a call: " + line, field || inConstructor ? 1 : 0, 1);
        }
    }
}
