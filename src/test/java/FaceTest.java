import java.io.IOException;
import java.lang.reflect.Constructor;
import java.lang.reflect.Field;
import java.lang.reflect.Member;
import java.lang.reflect.Method;
import java.lang.reflect.Modifier;
import java.nio.file.Files;
import java.nio.file.Path;
import java.util.TreeSet;

/** The public face is the document's, and nothing of the class beside it can be seen from outside. */
public final class FaceTest {
    private static final Due DUE = new Due("FaceTest");
    private static final Path DOCUMENT = Path.of("../shared/DOC.md");
    private static final String FACE = "int letter(int) int passes(int,int) int ranks(int,int) int of(int,int)"
        + " int rules() int word() int at(int,int) int drop() int alike(int,int) int blocks(int,int)"
        + " int least(int,int,int) long copies(int) int seen(int,int,int,int) int spread(int,int,int,int)"
        + " long odds(int,int) int begins(int,int,int) int common(int,int,int) int product(int,int)"
        + " int power(int,int) int changes(int,int) int root(int,int) int parts(int,int) int turned(int)"
        + " int turn(int,int,int) int apart(int,int) long unlike(int,int) int free() int lots(int,int,int,int)"
        + " int list(int,int) int put(int,int,int) long look(int,int) int from(int,int,int) int lays(int,int,int)"
        + " int judge(int,int) int undo() int image() int on() int count(int)";

    public static void main(String[] args) throws IOException {
        TreeSet<String> due = new TreeSet<>();
        String[] words = FACE.split(" ");
        TreeSet<String> names = new TreeSet<>();
        for (int k = 0; k < words.length; k += 2) {
            due.add(words[k] + " " + words[k + 1]);
            names.add(words[k + 1].substring(0, words[k + 1].indexOf('(')));
        }
        TreeSet<String> got = new TreeSet<>();
        for (Method method : LettersThatPass.class.getDeclaredMethods()) {
            if (!isHidden(method)) {
                String types = "";
                for (Class<?> type : method.getParameterTypes()) {
                    types += (types.isEmpty() ? "" : ",") + type.getName();
                }
                got.add(method.getReturnType().getName() + " " + method.getName() + "(" + types + ")");
            }
        }
        DUE.is("methods", got.toString(), due.toString());
        facesAreOne(due);
        DUE.is("final and public", LettersThatPass.class.getModifiers(), Modifier.PUBLIC | Modifier.FINAL);
        Constructor<?>[] makers = LettersThatPass.class.getDeclaredConstructors();
        DUE.is("constructors", makers.length, 1);
        DUE.is("constructor's parameters", makers[0].getParameterCount(), 0);
        for (Field field : LettersThatPass.class.getDeclaredFields()) {
            DUE.is("hidden: " + field, isHidden(field) ? 1 : 0, 1);
        }
        inside(names);
        DUE.end();
    }

    /** The document's face, line by line: it is the one that is tested here, and stands so in the source. */
    private static void facesAreOne(TreeSet<String> due) throws IOException {
        String source = Files.readString(Path.of("src/main/java/LettersThatPass.java"));
        if (!Files.exists(DOCUMENT)) {
            return;
        }
        String section = Files.readString(DOCUMENT).split("\n## ")[2];
        DUE.is("the section", section.split("\n")[0], "The public face");
        TreeSet<String> told = new TreeSet<>();
        for (String line : section.split("\n")) {
            if (line.startsWith("public ") || line.startsWith("    public ")) {
                String start = line.replace(";", " {");
                DUE.is("stands in the source: " + line, source.contains("\n" + start + "\n") ? 1 : 0, 1);
            }
            if (line.matches("    public (int|long) .*;")) {
                told.add(line.trim().replaceAll("public |;| \\w+(?=[,)])", "").replace(", ", ","));
            }
        }
        DUE.is("the document's methods", told.toString(), due.toString());
    }

    private static boolean isHidden(Member member) {
        return Modifier.isPrivate(member.getModifiers()) || member.isSynthetic();
    }

    private static void inside(TreeSet<String> names) {
        Class<?>[] classes = LettersThatPass.class.getDeclaredClasses();
        DUE.is("at most twelve classes", Math.max(classes.length + 1, 12), 12);
        for (Class<?> one : classes) {
            DUE.is("static: " + one, Modifier.isStatic(one.getModifiers()) ? 1 : 0, 1);
            for (Method method : one.getDeclaredMethods()) {
                DUE.is("a name of the face: " + method, names.contains(method.getName()) ? 1 : 0, 0);
                DUE.is("at most seven parameters", Math.max(method.getParameterCount(), 7), 7);
            }
        }
        int fields = 0;
        for (Field field : LettersThatPass.class.getDeclaredFields()) {
            fields += Modifier.isStatic(field.getModifiers()) ? 0 : 1;
        }
        DUE.is("some twenty fields", Math.max(fields, 20), 20);
    }
}
