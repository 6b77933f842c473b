import java.io.IOException;
import java.lang.reflect.Constructor;
import java.lang.reflect.Field;
import java.lang.reflect.Member;
import java.lang.reflect.Method;
import java.lang.reflect.Modifier;
import java.nio.file.Files;
import java.nio.file.Path;
import java.util.ArrayList;
import java.util.Arrays;
import java.util.List;
import java.util.Set;
import java.util.TreeSet;
import java.util.regex.Matcher;
import java.util.regex.Pattern;

/** The face of the document, and those rules of LANGUAGE.md that can be seen from the source or the class. */
public final class LanguageTest {
    private static final Path SOURCE = Path.of("src/main/java/BreathOnLoan.java");
    private static final String[] FACE = {
        "int blower(int, int, int)", "boolean quarrel(int, int, boolean)", "int kind(int, int, int)",
        "int feed(int, int, int, int, int)", "int end(int)", "int text()", "int fault(int)", "boolean by(int)", "int smoke(int)",
        "int cost(int, int)", "int begin(int)", "int blow(int, int, int)", "int later(int)", "int sell(int)", "int played(int)",
        "int undo()", "int of(int, int)", "int piece(int, int)", "int bubble(int, int)", "long odds(int, int)",
        "int plan(int, int, int)", "int seen(int)", "int whose(int)", "int tell(int, int, int, int)", "int liars()",
        "int coughs(int, int, int, int)", "int image()", "int back()", "int about(int)"};
    private static final Check CHECK = new Check();

    public static void main(String[] args) throws IOException {
        theFaceIsTheDocuments();
        classesAreFewAndSmall();
        String code = withoutCommentsAndTexts(Files.readString(SOURCE));
        forbiddenWordsAreAbsent(code);
        methodsAreShort(code);
        CHECK.finish("LanguageTest");
    }

    private static String shape(Method m) {
        List<String> parameters = new ArrayList<>();
        for (Class<?> c : m.getParameterTypes()) {
            parameters.add(c.getName());
        }
        return m.getReturnType().getName() + " " + m.getName() + "(" + String.join(", ", parameters) + ")";
    }

    private static void theFaceIsTheDocuments() {
        Set<String> face = new TreeSet<>();
        Set<String> names = new TreeSet<>();
        for (Method m : BreathOnLoan.class.getDeclaredMethods()) {
            if (!Modifier.isPrivate(m.getModifiers())) {
                face.add(shape(m));
                names.add(m.getName());
                CHECK.yes(m + " is public alone", m.getModifiers() == Modifier.PUBLIC);
            }
        }
        CHECK.yes("the face is " + face, face.equals(new TreeSet<>(Arrays.asList(FACE))));
        List<Class<?>> all = new ArrayList<>(List.of(BreathOnLoan.class.getDeclaredClasses()));
        all.add(BreathOnLoan.class);
        for (Class<?> c : all) {
            for (Method m : c.getDeclaredMethods()) {
                boolean isFace = c == BreathOnLoan.class && Modifier.isPublic(m.getModifiers());
                CHECK.yes(m + " has a name of its own", isFace || !names.contains(m.getName()));
                CHECK.yes(m + " has at most seven parameters", m.getParameterCount() <= 7);
            }
        }
        for (Field f : BreathOnLoan.class.getDeclaredFields()) {
            CHECK.yes(f + " is private or NONE", Modifier.isPrivate(f.getModifiers()) || f.getName().equals("NONE"));
        }
        Constructor<?>[] made = BreathOnLoan.class.getDeclaredConstructors();
        CHECK.yes("one public constructor", made.length == 1 && made[0].getModifiers() == Modifier.PUBLIC);
        CHECK.yes("public and final", BreathOnLoan.class.getModifiers() == (Modifier.PUBLIC | Modifier.FINAL));
        CHECK.same("NONE", BreathOnLoan.NONE, -1);
    }

    private static void classesAreFewAndSmall() {
        Class<?>[] inside = BreathOnLoan.class.getDeclaredClasses();
        CHECK.yes("at most twelve classes", inside.length <= 12);
        for (Class<?> c : inside) {
            CHECK.yes(c + " is static", Modifier.isStatic(c.getModifiers()));
            CHECK.yes(c + " is not public", (c.getModifiers() & (Modifier.PUBLIC | Modifier.PROTECTED)) == 0);
            int fields = 0;
            for (Field f : c.getDeclaredFields()) {
                fields += isStatic(f) ? 0 : 1;
                CHECK.yes(f + " is no static state", !isStatic(f) || Modifier.isFinal(f.getModifiers()));
            }
            CHECK.yes(c + " has some twenty fields", fields <= 20);
        }
    }

    private static boolean isStatic(Member m) {
        return Modifier.isStatic(m.getModifiers());
    }

    private static String withoutCommentsAndTexts(String source) {
        return source.replaceAll("(?s)/\\*.*?\\*/", " ").replaceAll("//[^\n]*", " ").replaceAll("\"[^\"\n]*\"", "TEXT")
                .replaceAll("'[^'\n]'", "SIGN");
    }

    private static void forbiddenWordsAreAbsent(String code) {
        for (String word : new String[] {"throw", "throws", "try", "catch", "synchronized", "assert", "protected", "package", "var",
            "static\\s*\\{", "hashCode", "toString", "->", "::", "\\w+Exact", "Object", "Exception", "System\\.(?!arraycopy)",
            "while\\s*\\(true\\)", "for\\s*\\(;;\\)", "TEXT\\s*\\+", "\\+\\s*TEXT", "double", "float", "Random", "Thread"}) {
            boolean isWord = Character.isLetter(word.charAt(0));
            Matcher m = Pattern.compile(isWord ? "\\b" + word : word).matcher(code);
            boolean found = false;
            while (m.find()) {
                int end = m.end();
                boolean isWhole = !Character.isLetter(word.charAt(word.length() - 1)) || end == code.length()
                        || !Character.isJavaIdentifierPart(code.charAt(end));
                found |= isWhole;
            }
            CHECK.no("the source has " + word, found);
        }
        Matcher imports = Pattern.compile("import ([^;]*);").matcher(code);
        while (imports.find()) {
            CHECK.yes("import " + imports.group(1), imports.group(1).equals("java.util.Arrays"));
        }
        CHECK.yes("signs 1 to 127 alone", code.chars().allMatch(c -> c > 0 && c < 128));
    }

    private static void methodsAreShort(String code) {
        String[] lines = code.split("\n");
        int start = 0;
        String indent = "";
        for (int i = 0; i < lines.length; i++) {
            Matcher head = Pattern.compile("( {4}| {8})[\\w\\[\\]<> ]+\\([^;]*\\{\\s*").matcher(lines[i]);
            if (head.matches()) {
                start = i;
                indent = head.group(1);
            } else if (lines[i].equals(indent + "}")) {
                CHECK.yes("the method of line " + (start + 1) + " is short", i - start < 60);
            }
        }
    }
}
