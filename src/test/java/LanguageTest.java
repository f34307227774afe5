import java.io.IOException;
import java.lang.reflect.Field;
import java.lang.reflect.Method;
import java.lang.reflect.Modifier;
import java.nio.file.Files;
import java.nio.file.Path;
import java.util.Set;
import java.util.TreeSet;
import java.util.regex.Matcher;
import java.util.regex.Pattern;

/** What of ../shared/LANGUAGE.md can be seen from outside: the face, the classes, the words of the source. */
public final class LanguageTest {
    private static final Path SOURCE = Path.of("src/main/java/HalvingMender.java");
    private static final Due due = new Due("LanguageTest");

    private static final String FACE = "feed5 end1 text0 fault0 is1 bit2 off2 set2 stick2 seed1 convert1 decision2 converted1 "
        + "write0 octet1 learn2 forget0 code1 forgiven2 slack1 histogram4 often4 first3 crowd5 drawn4 fewest2 draw2 drift0 "
        + "heat1 pass1 due2 plan3 ways1 sums1 mean2 apart4 loosest2 tightest1 gap1 see2 wipe0 faults2 bench0 stopped0 row1 "
        + "keep1 back1";
    private static final Set<String> TRUTHS = Set.of("off", "set", "stick", "draw", "heat", "keep", "back");

    public static void main(String[] args) throws IOException {
        face();
        for (Class<?> c : HalvingMender.class.getDeclaredClasses()) {
            inside(c);
        }
        due.is("classes", HalvingMender.class.getDeclaredClasses().length <= 11, true);
        source();
        methodsAreShort();
        due.end();
    }

    private static void face() {
        Class<?> c = HalvingMender.class;
        due.is("public and final", Modifier.isPublic(c.getModifiers()) && Modifier.isFinal(c.getModifiers()), true);
        due.is("constructors", c.getDeclaredConstructors().length, 1);
        due.is("constructors", c.getConstructors().length, 1);
        Set<String> open = new TreeSet<>();
        for (Method m : c.getDeclaredMethods()) {
            if (!Modifier.isPrivate(m.getModifiers()) && !m.isSynthetic()) {
                due.is(m + " is public", Modifier.isPublic(m.getModifiers()) && !Modifier.isStatic(m.getModifiers()), true);
                due.is(m + " tells", m.getReturnType() == (TRUTHS.contains(m.getName()) ? boolean.class : int.class), true);
                open.add(m.getName() + m.getParameterCount());
            }
        }
        due.is("the face " + open, open.equals(new TreeSet<>(Set.of(FACE.split(" ")))), true);
        for (Field f : c.getDeclaredFields()) {
            due.is(f + " is private", Modifier.isPrivate(f.getModifiers()) || f.getName().equals("NONE"), true);
        }
        members(c);
    }

    private static void inside(Class<?> c) {
        due.is(c + " is static", Modifier.isStatic(c.getModifiers()), true);
        due.is(c + " is not open", Modifier.isPublic(c.getModifiers()) || Modifier.isProtected(c.getModifiers()), false);
        due.is(c + " has none inside", c.getDeclaredClasses().length, 0);
        members(c);
    }

    private static void members(Class<?> c) {
        Set<String> names = new TreeSet<>(Set.of(FACE.replaceAll("\\d", "").split(" ")));
        int fields = 0;
        for (Field f : c.getDeclaredFields()) {
            due.is(f + " is final, if static",
                !Modifier.isStatic(f.getModifiers()) || Modifier.isFinal(f.getModifiers()), true);
            fields += Modifier.isStatic(f.getModifiers()) ? 0 : 1;
        }
        due.is(c + " has few fields", fields <= 20, true);
        for (Method m : c.getDeclaredMethods()) {
            due.is(m + " has few parameters", m.getParameterCount() <= 7, true);
            due.is(m + " bears a public name", Modifier.isPrivate(m.getModifiers()) && names.contains(m.getName()), false);
        }
    }

    private static void source() throws IOException {
        String bare = Files.readString(SOURCE).replaceAll("(?s)/\\*.*?\\*/", "").replaceAll("//[^\n]*", "")
            .replaceAll("'.'", "0");
        Matcher no = Pattern.compile("\\b(throw|throws|try|catch|finally|synchronized|assert|import|package|instanceof|"
            + "record|float|double|Object|Exact|String|Thread|Random|native|volatile|transient)\\b|->|::|\"").matcher(bare);
        while (no.find()) {
            due.is("the source has " + no.group(), true, false);
        }
        Matcher library = Pattern.compile("\\b(System|Math|Integer|Long|Arrays)\\.(\\w+)").matcher(bare);
        while (library.find()) {
            due.is("the source asks " + library.group(), Set.of("System.arraycopy", "Math.max", "Math.min", "Math.abs",
                "Integer.MIN_VALUE", "Integer.MAX_VALUE").contains(library.group()), true);
        }
    }

    private static void methodsAreShort() throws IOException {
        int start = 0;
        int line = 0;
        for (String text : Files.readAllLines(SOURCE)) {
            line++;
            due.is("line " + line + " is not long", text.length() <= 120, true);
            if (text.matches("(    |        )\\S.*\\) \\{") && !text.matches("\\s*(for|if|switch|while) .*")) {
                start = line;
            }
            if (text.matches("(    |        )\\}") && start > 0) {
                due.is("the method from line " + start + " is short", line - start < 60, true);
                start = 0;
            }
        }
    }
}
