import java.io.IOException;
import java.lang.reflect.Constructor;
import java.lang.reflect.Field;
import java.lang.reflect.Method;
import java.lang.reflect.Modifier;
import java.nio.file.Files;
import java.nio.file.Path;
import java.util.ArrayList;
import java.util.Arrays;
import java.util.HashSet;
import java.util.List;
import java.util.Set;
import java.util.TreeSet;

/** The public face against the document, and what LANGUAGE.md says that can be seen at a glance. */
public final class FaceTest {
    private static final Path DOCUMENT = Path.of("../shared/DOC.md");
    private static final Path SOURCE = Path.of("src/main/java/ChoreAssignment.java");
    private static final String[] RULED_OUT = {
        "->", "::", "finally", "synchronized", "assert ", "catch", "try ", "Exact(", "Random",
        "System.current", "nanoTime", "Thread", "PriorityQueue", "var ", "instanceof", "package ",
        "getMessage", "static {", "protected ", "\t",
    };

    private FaceTest() {
    }

    private static String plain(String text) {
        return text.replaceAll("\\s+", " ");
    }

    private static List<String> documentedFace() throws IOException {
        List<String> face = new ArrayList<>();
        for (String line : Files.readAllLines(DOCUMENT)) {
            if (line.startsWith("    public ")) {
                face.add(plain(line.trim().replace(";", "")));
            }
        }
        return face;
    }

    private static void facePromised(String source) throws IOException {
        List<String> face = documentedFace();
        Check.same("members of the face", face.size(), 44);
        for (String member : face) {
            Check.same("the source has " + member, plain(source).contains(member), true);
        }
    }

    private static String nameIn(String member) {
        String head = member.replaceAll("[(=].*", "").trim();
        return head.substring(head.lastIndexOf(' ') + 1);
    }

    private static void nothingElseToSee() throws IOException {
        Set<String> due = new TreeSet<>();
        for (String member : documentedFace()) {
            due.add(nameIn(member));
        }
        Class<?> of = ChoreAssignment.class;
        List<String> seen = new ArrayList<>();
        Set<String> hidden = new HashSet<>();
        for (Method method : of.getDeclaredMethods()) {
            (Modifier.isPrivate(method.getModifiers()) ? hidden : seen).add(method.getName());
        }
        for (Constructor<?> constructor : of.getDeclaredConstructors()) {
            boolean open = Modifier.isPublic(constructor.getModifiers());
            Check.same("constructor is public", open, true);
            seen.add(constructor.getName());
        }
        for (Field field : of.getDeclaredFields()) {
            if (!Modifier.isPrivate(field.getModifiers())) {
                seen.add(field.getName());
            }
        }
        Check.same("names to see", new TreeSet<>(seen).toString(), due.toString());
        Check.same("members to see", seen.size(), due.size());
        hidden.retainAll(due);
        Check.same("private ones with a public name", hidden.toString(), "[]");
        Check.same("class is final", Modifier.isFinal(of.getModifiers()), true);
    }

    private static void insideClassesAreStatic() {
        for (Class<?> inside : ChoreAssignment.class.getDeclaredClasses()) {
            int how = inside.getModifiers();
            Check.same(inside + " is static", Modifier.isStatic(how), true);
            Check.same(inside + " is not public", Modifier.isPublic(how), false);
            int fields = 0;
            for (Field field : inside.getDeclaredFields()) {
                boolean fixed = !Modifier.isStatic(field.getModifiers())
                    || Modifier.isFinal(field.getModifiers());
                Check.same(field + " is no static state", fixed, true);
                fields += Modifier.isStatic(field.getModifiers()) ? 0 : 1;
            }
            Check.same(inside + " has few fields", fields <= 20, true);
        }
    }

    private static void languageKept(String source) {
        for (String text : RULED_OUT) {
            Check.same("the source has '" + text + "'", source.contains(text), false);
        }
        for (String line : source.split("\n")) {
            boolean other = line.startsWith("import ")
                && !line.equals("import java.util.NoSuchElementException;");
            Check.same("an import beside the face's: " + line, other, false);
            Check.same("a line over 100 signs: " + line, line.length() > 100, false);
        }
        Check.same("signs 1 to 127", Arrays.stream(source.split("")).allMatch(
            sign -> sign.isEmpty() || sign.charAt(0) < 128), true);
    }

    public static void main(String[] args) throws IOException {
        String source = Files.readString(SOURCE);
        facePromised(source);
        nothingElseToSee();
        insideClassesAreStatic();
        languageKept(source);
        Check.end();
    }
}
