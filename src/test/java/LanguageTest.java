import java.io.IOException;
import java.lang.reflect.Member;
import java.lang.reflect.Modifier;
import java.nio.charset.StandardCharsets;
import java.nio.file.Files;
import java.nio.file.Path;
import java.util.ArrayList;
import java.util.Arrays;
import java.util.List;
import java.util.Set;
import java.util.TreeSet;
import java.util.regex.Matcher;
import java.util.regex.Pattern;

/** Those rules of LANGUAGE.md that can be seen from the program's text or its classes alone. */
public final class LanguageTest {
    private static int passed = 0;
    private static int failed = 0;

    private static void rule(String name, List<String> against) {
        if (against.isEmpty()) {
            passed++;
        } else {
            failed++;
            System.out.println(name + ": " + against);
        }
    }

    public static void main(String[] args) throws IOException {
        String source = Files.readString(Path.of("src/main/java/MoonWash.java"), StandardCharsets.UTF_8);
        String code = source.replaceAll("(?s)/\\*.*?\\*/", "").replaceAll("//[^\n]*", "");
        String bare = code.replaceAll("\"[^\"\n]*\"", "\"\"");
        rule("rule 1, the face", face());
        rule("rule 1, private names", privateNames());
        rule("rule 3, bytes of the source", found(source, "[^\\x00-\\x7f]"));
        rule("imports", found(bare, "import (?!java\\.util\\.NoSuchElementException;)[^;]*;"));
        rule("rule 2, no lambda, no method reference", found(bare, "->|::"));
        rule("rule 3, no text joined by +", found(bare, "\"\" \\+|\\+ \"\""));
        rule("rule 4, no functions named Exact", found(bare, "\\w+Exact"));
        rule("rule 4, no other class of the library", otherClasses(bare));
        rule("rule 6, words that are not there", found(bare,
                "\\b(try|catch|finally|synchronized|assert|native|volatile|transient|instanceof|goto|var|yield|sealed|permits)\\b"));
        rule("rule 6, what is thrown", found(bare,
                "throw (?!new (IllegalStateException|IllegalArgumentException|IndexOutOfBoundsException|UnsupportedOperationException|NoSuchElementException)\\(\\);)"));
        rule("rule 11, length of methods", longMethods(code));
        rule("rule 11, parameters", found(bare, "\\b\\w+\\((int|boolean|Moon|Law|Laundry|Words|Token|String)[^()]*(,[^(),]*){7,}\\) *(throws [^{]*)?\\{"));
        rule("rule 11, classes and fields", classesAndFields());
        System.out.println("LanguageTest: " + passed + " passed, " + failed + " failed");
        System.exit(failed == 0 ? 0 : 1);
    }

    private static List<String> found(String code, String pattern) {
        List<String> found = new ArrayList<>();
        Matcher m = Pattern.compile(pattern).matcher(code);
        while (m.find()) {
            found.add(m.group());
        }
        return found;
    }

    private static List<String> face() {
        String due = "NONE back best count darkest darn dried drop due end enough fault feed halves hang house image ahead late law "
                + "least led light like log move nights part peg row seed shines soap soaps soonest span stained tide trial tries "
                + "undo wash washes watch wears would";
        Set<String> names = new TreeSet<>();
        List<Member> members = new ArrayList<>(Arrays.asList(MoonWash.class.getDeclaredMethods()));
        members.addAll(Arrays.asList(MoonWash.class.getDeclaredFields()));
        for (Member m : members) {
            if (!Modifier.isPrivate(m.getModifiers()) && !m.isSynthetic()) {
                names.add(m.getName());
            }
        }
        Set<String> dueNames = new TreeSet<>(Arrays.asList(due.split(" ")));
        return names.equals(dueNames) && MoonWash.class.getDeclaredConstructors().length == 1 ? List.of() : List.of(names.toString());
    }

    private static List<String> privateNames() {
        Set<String> ofFace = new TreeSet<>();
        List<String> against = new ArrayList<>();
        for (java.lang.reflect.Method m : MoonWash.class.getDeclaredMethods()) {
            if (Modifier.isPublic(m.getModifiers())) {
                ofFace.add(m.getName());
            }
        }
        List<Class<?>> all = new ArrayList<>(Arrays.asList(MoonWash.class.getDeclaredClasses()));
        all.add(MoonWash.class);
        for (Class<?> c : all) {
            for (java.lang.reflect.Method m : c.getDeclaredMethods()) {
                if (ofFace.contains(m.getName()) && !Modifier.isPublic(m.getModifiers())) {
                    against.add(c.getName() + "." + m.getName());
                }
            }
        }
        return against;
    }

    private static List<String> otherClasses(String bare) {
        Set<String> known = new TreeSet<>(Arrays.asList(("MoonWash String Math Integer System Token Words Moon Laundry Law Past Image WaterPlan "
                + "PegPlan HouseText LawText IllegalStateException IllegalArgumentException IndexOutOfBoundsException "
                + "UnsupportedOperationException NoSuchElementException").split(" ")));
        List<String> against = new ArrayList<>();
        for (String name : found(bare, "\\b[A-Z][a-z]\\w*\\b")) {
            if (!known.contains(name)) {
                against.add(name);
            }
        }
        against.addAll(found(bare, "\\b(Math|Integer|System)\\.(?!(min|max|abs|bitCount|arraycopy)\\()\\w+"));
        return against;
    }

    private static List<String> longMethods(String code) {
        List<String> against = new ArrayList<>();
        String name = null;
        int lines = 0;
        for (String line : code.split("\n")) {
            if (line.matches(" {4}( {4})?[^ ].*\\) ?(throws .*)?\\{") && !line.contains(" class ")) {
                name = line.trim();
                lines = 0;
            }
            lines++;
            if (line.matches(" {4}( {4})?\\}") && name != null) {
                if (lines > 60) {
                    against.add(name + " " + lines);
                }
                name = null;
            }
        }
        return against;
    }

    private static List<String> classesAndFields() {
        List<String> against = new ArrayList<>();
        List<Class<?>> all = new ArrayList<>(Arrays.asList(MoonWash.class.getDeclaredClasses()));
        all.add(MoonWash.class);
        if (all.size() > 12) {
            against.add(all.size() + " classes");
        }
        for (Class<?> c : all) {
            int fields = 0;
            for (java.lang.reflect.Field f : c.getDeclaredFields()) {
                boolean isStatic = Modifier.isStatic(f.getModifiers());
                if (isStatic && !Modifier.isFinal(f.getModifiers())) {
                    against.add(f.toString());
                }
                fields += isStatic ? 0 : 1;
            }
            if (fields > 20 || c != MoonWash.class && !Modifier.isStatic(c.getModifiers())) {
                against.add(c + " " + fields);
            }
        }
        return against;
    }
}
