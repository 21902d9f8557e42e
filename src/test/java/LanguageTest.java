import java.lang.management.ManagementFactory;
import java.lang.reflect.Field;
import java.lang.reflect.Method;
import java.lang.reflect.Modifier;
import java.nio.file.Files;
import java.nio.file.Path;
import java.util.Set;
import java.util.TreeSet;
import java.util.regex.Matcher;
import java.util.regex.Pattern;

/** The face of the document, the rules of LANGUAGE.md that can be seen in a text, and that no call makes objects. */
public final class LanguageTest {
    private static final Check check = new Check("LanguageTest");

    private static final Set<String> FACE = Set.of("int rooms(int)", "int door(int,int,boolean)", "int cat(int,boolean)",
            "int lay(int,int)", "int person(int)", "int law(int)", "int wish(int,int,int)", "int type(long,int)",
            "int clear()", "int read()", "int beat(int)", "int undo()", "int standing()", "int sill(int)",
            "int purse(int)", "int alone(int)", "int plan(int)", "int scrap()", "int judge()", "int cost(int)",
            "int least(int,int)", "int fewest(int)", "int quiet()", "int picks(int,int,int)", "int join(int)",
            "int spy(int,int)", "int fits()", "int was(int,int)", "int rent(int,int)", "int drawn(int,int,int)",
            "int image(int)", "int from(int)", "int status(int)", "int count(int)", "long digest()");

    public static void main(String[] args) throws Exception {
        theFace();
        theConstants();
        theText();
        theSizes();
        noCallMakesObjects();
        check.end();
    }

    private static void theFace() throws Exception {
        Set<String> names = new TreeSet<>();
        for (String call : FACE) {
            names.add(call.substring(call.indexOf(' ') + 1, call.indexOf('(')));
        }
        Set<String> found = new TreeSet<>();
        for (Method m : AloneRooms.class.getDeclaredMethods()) {
            if (Modifier.isPrivate(m.getModifiers())) {
                check.due("private " + m.getName() + " has a public name", names.contains(m.getName()) ? 1 : 0, 0);
            } else {
                check.due(m.getName() + " is public", Modifier.isPublic(m.getModifiers()) ? 1 : 0, 1);
                String full = m.toGenericString().replace("public ", "").replace("AloneRooms.", "");
                found.add(full);
            }
        }
        for (Class<?> inside : AloneRooms.class.getDeclaredClasses()) {
            check.due(inside + " is static", Modifier.isStatic(inside.getModifiers()) ? 1 : 0, 1);
            for (Method m : inside.getDeclaredMethods()) {
                check.due(m + " has a public name", names.contains(m.getName()) ? 1 : 0, 0);
            }
        }
        check.due("the face " + found, found.equals(new TreeSet<>(FACE)) ? 1 : 0, 1);
        check.due("final", Modifier.isFinal(AloneRooms.class.getModifiers()) ? 1 : 0, 1);
        check.due("constructors", AloneRooms.class.getDeclaredConstructors().length, 1);
        check.due("a public constructor", AloneRooms.class.getConstructors().length, 1);
    }

    private static void theConstants() throws Exception {
        check.due("NONE", AloneRooms.NONE, -1);
        check.due("BAD", AloneRooms.BAD, -2);
        check.due("NO", AloneRooms.NO, -3);
        check.due("FULL", AloneRooms.FULL, -4);
        for (Field f : AloneRooms.class.getDeclaredFields()) {
            int modifiers = f.getModifiers();
            boolean told = Set.of("NONE", "BAD", "NO", "FULL").contains(f.getName());
            check.due(f.getName() + " is private, or told", Modifier.isPrivate(modifiers) != told ? 1 : 0, 1);
            check.due(f.getName() + " is final, if static",
                    !Modifier.isStatic(modifiers) || Modifier.isFinal(modifiers) ? 1 : 0, 1);
        }
    }

    private static void theText() throws Exception {
        String text = Files.readString(Path.of("src/main/java/AloneRooms.java"));
        String code = text.replaceAll("(?s)/\\*.*?\\*/", "").replaceAll("//.*", "");
        String[] ruledOut = {"\\bthrow\\b", "\\btry\\b", "\\bcatch\\b", "\\bsynchronized\\b", "\\bassert\\b", "->", "::",
            "@", "\\bpackage\\b", "Exact\\b", "\\bSystem\\.(?!arraycopy)", "\\bvar\\b", "static \\{", "\\[\\]\\[\\]\\["};
        for (String pattern : ruledOut) {
            Matcher m = Pattern.compile(pattern).matcher(code);
            check.due("'" + pattern + "' stands in the text", m.find() ? 1 : 0, 0);
        }
        Matcher imports = Pattern.compile("import ([^;]+);").matcher(code);
        while (imports.find()) {
            check.due("import " + imports.group(1), imports.group(1).equals("java.util.Arrays") ? 1 : 0, 1);
        }
        Matcher classes = Pattern.compile("\\bclass \\w+").matcher(code);
        int many = 0;
        while (classes.find()) {
            many++;
        }
        check.due("no more than twelve classes", many <= 12 ? 1 : 0, 1);
        check.due("bytes above 127", text.chars().filter(c -> c > 127).count(), 0);
    }

    /** Rule 11: parameters and lines of a method, fields of a class. */
    private static void theSizes() throws Exception {
        dueSizes(AloneRooms.class);
        for (Class<?> inside : AloneRooms.class.getDeclaredClasses()) {
            dueSizes(inside);
        }
        String end = "";
        int lines = 0;
        int methods = 0;
        for (String line : Files.readAllLines(Path.of("src/main/java/AloneRooms.java"))) {
            Matcher head = Pattern.compile("((?: {4}){1,2})[a-zA-Z][^;=]*\\) \\{").matcher(line);
            if (head.matches() && end.isEmpty()) {
                end = head.group(1) + "}";
                lines = 0;
            }
            lines++;
            if (!end.isEmpty() && line.equals(end)) {
                check.due("a method of " + lines + " lines", lines <= 60 ? 1 : 0, 1);
                end = "";
                methods++;
            }
        }
        check.due(methods + " methods were seen", methods >= FACE.size() ? 1 : 0, 1);
    }

    private static void dueSizes(Class<?> kind) {
        for (Method m : kind.getDeclaredMethods()) {
            check.due(m + " has seven parameters at most", m.getParameterCount() <= 7 ? 1 : 0, 1);
        }
        int fields = 0;
        for (Field f : kind.getDeclaredFields()) {
            fields += Modifier.isStatic(f.getModifiers()) ? 0 : 1;
        }
        check.due(kind + " has " + fields + " fields", fields <= 20 ? 1 : 0, 1);
    }

    /** The room of a run is small, so all rows are made with the object. */
    private static void noCallMakesObjects() {
        var thread = (com.sun.management.ThreadMXBean) ManagementFactory.getThreadMXBean();
        long id = Thread.currentThread().getId();
        AloneRooms x = new AloneRooms();
        callAll(x);
        long before = thread.getThreadAllocatedBytes(id);
        for (int i = 0; i < 20; i++) {
            callAll(x);
        }
        long made = thread.getThreadAllocatedBytes(id) - before;
        // a look of the bean makes some bytes itself; twenty rows would be far more
        check.due("calls made objects, " + made + " bytes", made < 400 ? 1 : 0, 1);
    }

    private static void callAll(AloneRooms x) {
        x.clear();
        x.type(0x726f6f6d7320353bL, 8);
        x.type(0x706572736f6e3420L, 8);
        x.type(0x3b, 1);
        x.read();
        for (int a = 0; a < 5; a++) {
            x.door(a, (a + 1) % 5, true);
            x.lay(a, a);
            x.spy(a, a);
        }
        x.cat(0, true);
        x.person(0);
        x.person(1);
        x.wish(1, 4, 2);
        for (int law = 0; law < 5; law++) {
            x.law(law);
            x.least(4, 4);
            x.join(4);
            x.fewest(2 + 8 * 3 + 64);
            x.cost(law);
            x.rent(99, 0);
            x.drawn(5, 20, 0);
        }
        x.plan(x.standing());
        x.judge();
        x.picks(1, 6, 3);
        x.quiet();
        for (int i = 0; i < 10; i++) {
            x.beat(x.standing());
        }
        x.undo();
        x.fits();
        x.was(0, 0);
        x.image(0);
        x.from(0);
        x.alone(0);
        x.purse(0);
        x.sill(9);
        x.scrap();
        x.digest();
    }
}
