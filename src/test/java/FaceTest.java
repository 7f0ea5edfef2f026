import java.io.IOException;
import java.lang.reflect.Constructor;
import java.lang.reflect.Field;
import java.lang.reflect.Method;
import java.lang.reflect.Modifier;
import java.nio.file.Files;
import java.nio.file.Path;
import java.util.Arrays;
import java.util.List;
import java.util.Set;
import java.util.TreeSet;
import java.util.regex.Matcher;
import java.util.regex.Pattern;

/** The document's face, and the rules of LANGUAGE.md that can be seen without reading. */
public final class FaceTest {
    private static final Due DUE = new Due("FaceTest");
    private static final String FACE = "feed:5 end:1 station:4 join:2 log:2 wrong:1 rule:0 window:1 penalty:1 lines:2 entry:3"
        + " moment:4 character:4 number:4 offset:1 pair:3 why:3 meant:3 points:3 total:1 rate:1 place:1 publish:0 known:2"
        + " finding:0 count:1";

    private static void members() {
        Set<String> face = new TreeSet<>();
        for (Method m : ContactHouse.class.getDeclaredMethods()) {
            if (!Modifier.isPrivate(m.getModifiers())) {
                face.add(m.getName() + ":" + m.getParameterCount());
                boolean isLong = Set.of("moment", "offset", "rate").contains(m.getName());
                DUE.is(m + ": its type", m.getReturnType() == (isLong ? long.class : int.class) ? 1 : 0, 1);
                DUE.is(m + ": public", Modifier.isPublic(m.getModifiers()) ? 1 : 0, 1);
            }
        }
        DUE.is("the face, and no more: " + face, face.equals(new TreeSet<>(Arrays.asList(FACE.split(" ")))) ? 1 : 0, 1);
        Constructor<?>[] constructors = ContactHouse.class.getDeclaredConstructors();
        DUE.is("one constructor", constructors.length, 1);
        DUE.is("it is public", Modifier.isPublic(constructors[0].getModifiers()) ? 1 : 0, 1);
        DUE.is("public and final", ContactHouse.class.getModifiers(), Modifier.PUBLIC | Modifier.FINAL);
    }

    private static void privateParts() {
        Set<String> names = new TreeSet<>();
        for (String member : FACE.split(" ")) {
            names.add(member.substring(0, member.indexOf(':')));
        }
        DUE.is("at most twelve classes", Math.max(12, ContactHouse.class.getDeclaredClasses().length + 1), 12);
        fields(ContactHouse.class);
        for (Class<?> inside : ContactHouse.class.getDeclaredClasses()) {
            DUE.is(inside + " is static", Modifier.isStatic(inside.getModifiers()) ? 1 : 0, 1);
            fields(inside);
            for (Method m : inside.getDeclaredMethods()) {
                DUE.is(m + " bears the name of a public one", names.contains(m.getName()) ? 1 : 0, 0);
                DUE.is(m + ": at most seven parameters", Math.max(7, m.getParameterCount()), 7);
            }
        }
        for (Method m : ContactHouse.class.getDeclaredMethods()) {
            boolean taken = Modifier.isPrivate(m.getModifiers()) && names.contains(m.getName());
            DUE.is(m + " bears the name of a public one", taken ? 1 : 0, 0);
        }
    }

    private static void fields(Class<?> of) {
        int own = 0;
        for (Field f : of.getDeclaredFields()) {
            int modifiers = f.getModifiers();
            DUE.is(f + " is private", Modifier.isPrivate(modifiers) ? 1 : 0, 1);
            DUE.is(f + " is final if it is static", !Modifier.isStatic(modifiers) || Modifier.isFinal(modifiers) ? 1 : 0, 1);
            own += Modifier.isStatic(modifiers) ? 0 : 1;
        }
        DUE.is(of + ": at most twenty fields", Math.max(20, own), 20);
    }

    private static void words() throws IOException {
        String source = Files.readString(Path.of("src/main/java/ContactHouse.java"));
        String code = source.replaceAll("(?s)/\\*.*?\\*/", " ").replaceAll("//[^\n]*", " ");
        for (String form : new String[] {
            "\\b(throw|try|catch|synchronized|assert|import|package|double|float)\\b", "\\bstatic\\s*\\{", "->", "::", "Exact\\b",
            "\\b(System|Arrays|Object)\\b", "\\b(Integer|Long|Math)\\.[A-Z]"}) {
            DUE.is("'" + form + "' stands in the class", Pattern.compile(form).matcher(code).find() ? 1 : 0, 0);
        }
        for (int i = 0; i < source.length(); i++) {
            DUE.is("a character that is not ASCII", source.charAt(i) < 128 ? 1 : 0, 1);
        }
    }

    /** A method ends at the first brace that stands as far in as its head. */
    private static void lengths() throws IOException {
        List<String> lines = Files.readAllLines(Path.of("src/main/java/ContactHouse.java"));
        int methods = 0;
        for (int from = 0; from < lines.size(); from++) {
            Matcher head = Pattern.compile("( +)(public|private) [^=]*\\) \\{").matcher(lines.get(from));
            if (head.matches()) {
                int to = lines.subList(from, lines.size()).indexOf(head.group(1) + "}");
                DUE.is("at most sixty lines, from line " + (from + 1) + " on", to >= 0 && to < 60 ? 1 : 0, 1);
                methods++;
            }
        }
        DUE.is("methods are found: " + methods, methods > 100 ? 1 : 0, 1);
    }

    public static void main(String[] args) throws IOException {
        members();
        privateParts();
        words();
        lengths();
        DUE.end();
    }
}
