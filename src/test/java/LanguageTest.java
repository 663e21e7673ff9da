import com.sun.management.ThreadMXBean;
import java.io.IOException;
import java.lang.management.ManagementFactory;
import java.lang.reflect.Field;
import java.lang.reflect.Method;
import java.lang.reflect.Modifier;
import java.nio.file.Files;
import java.nio.file.Path;
import java.util.Arrays;
import java.util.Set;
import java.util.TreeSet;
import java.util.regex.Matcher;
import java.util.regex.Pattern;

/** The face of the class, and those rules of LANGUAGE.md that can be seen from outside. */
public final class LanguageTest {
    private static final Path SOURCE = Path.of("src/main/java/GameTeller.java");
    private static final Set<String> FACE = new TreeSet<>(Arrays.asList(
            "boolean game(int, int, int, boolean, boolean)", "int play(int)", "int back()", "boolean depth(int)",
            "boolean weight(int, int)", "int value(int, int)", "int best(int, int)", "int found(int, int)",
            "int leader(int)", "int plan(int)", "int words(int, int)", "int tale(int)", "int octet(int)",
            "int chosen(int)", "int worth(int)", "int feed(int, int, int, int, int)", "int read(int)", "int look(int)"));
    private static final String[] FORBIDDEN = {"\\bthrow\\b", "\\btry\\b", "\\bcatch\\b", "\\bsynchronized\\b",
        "\\bassert\\b", "->", "::", "\\bSystem\\.(?!arraycopy)", "\\bstatic\\s*\\{", "\\bObject\\b", "\\bnull\\b",
        "Exact\\b", "^package\\b"};
    /** Of what rule 4 allows, what the class has had a use for; a name more is looked up there first. */
    private static final Set<String> LIBRARY = Set.of("Math.min", "Math.max", "Integer.bitCount", "Arrays.fill");
    private static final int LONGEST_METHOD = 60;
    private static int wrong;

    public static void main(String[] args) throws IOException {
        checkFace();
        for (Class<?> inside : GameTeller.class.getDeclaredClasses()) {
            checkInside(inside);
        }
        checkSource(Files.readString(SOURCE));
        checkNoCallMakesObjects();
        System.out.println("LanguageTest: " + wrong + " wrong");
        if (wrong != 0) {
            System.exit(1);
        }
    }

    private static void expect(boolean holds, String what) {
        if (!holds) {
            wrong++;
            System.out.println("not so: " + what);
        }
    }

    private static void checkFace() {
        Set<String> face = new TreeSet<>();
        Set<String> publicNames = new TreeSet<>();
        for (Method method : GameTeller.class.getDeclaredMethods()) {
            if (!Modifier.isPrivate(method.getModifiers())) {
                expect(Modifier.isPublic(method.getModifiers()), method + " is public");
                face.add(signature(method));
                publicNames.add(method.getName());
            }
        }
        expect(face.equals(FACE), "the methods of the face: " + face);
        for (Method method : GameTeller.class.getDeclaredMethods()) {
            boolean isPrivate = Modifier.isPrivate(method.getModifiers());
            expect(!isPrivate || !publicNames.contains(method.getName()), method + " has a name of its own");
        }
        for (Field field : GameTeller.class.getDeclaredFields()) {
            expect(Modifier.isPrivate(field.getModifiers()) || field.getName().equals("NONE"), field + " is private");
        }
        int modifiers = GameTeller.class.getModifiers();
        expect(Modifier.isPublic(modifiers) && Modifier.isFinal(modifiers), "the class is public and final");
        expect(GameTeller.class.getDeclaredConstructors().length == 1, "there is one constructor");
        expect(GameTeller.class.getDeclaredClasses().length <= 11, "there are at most twelve classes");
    }

    private static String signature(Method method) {
        String types = Arrays.toString(method.getParameterTypes());
        return method.getReturnType() + " " + method.getName() + "(" + types.substring(1, types.length() - 1) + ")";
    }

    private static void checkInside(Class<?> inside) {
        int modifiers = inside.getModifiers();
        expect(Modifier.isStatic(modifiers), inside + " is static");
        expect(!Modifier.isPublic(modifiers) && !Modifier.isProtected(modifiers), inside + " is not public");
        int own = 0;
        for (Field field : inside.getDeclaredFields()) {
            boolean isStatic = Modifier.isStatic(field.getModifiers());
            expect(!isStatic || Modifier.isFinal(field.getModifiers()), field + " is final");
            own += isStatic ? 0 : 1;
        }
        expect(own <= 20, inside + " has at most twenty fields");
        for (Method method : inside.getDeclaredMethods()) {
            expect(method.getParameterCount() <= 7, method + " takes at most seven parameters");
            boolean nameOfFace = FACE.stream().anyMatch(face -> face.contains(" " + method.getName() + "("));
            expect(!nameOfFace, method + " has a name of its own");
        }
    }

    private static void checkSource(String source) {
        String code = source.replaceAll("(?s)/\\*.*?\\*/", "").replaceAll("//[^\n]*", "");
        for (String word : FORBIDDEN) {
            Matcher found = Pattern.compile(word, Pattern.MULTILINE).matcher(code);
            expect(!found.find(), "no " + word + " in the source");
        }
        Matcher imports = Pattern.compile("import ([^;]*);").matcher(code);
        while (imports.find()) {
            expect(Set.of("java.util.Arrays", "java.util.ArrayList", "java.util.List").contains(imports.group(1)),
                    imports.group() + " is allowed");
        }
        checkLibrary(code);
        checkLengths(source);
        // Only constructors make objects, and all of them are named here.
        Matcher made = Pattern.compile("(\\w+ = )?new (\\w+)").matcher(code);
        while (made.find()) {
            expect(made.group(1) != null, "'" + made.group() + "' stands in a constructor");
        }
    }

    private static void checkLibrary(String code) {
        Set<String> own = new TreeSet<>();
        for (Class<?> inside : GameTeller.class.getDeclaredClasses()) {
            own.add(inside.getSimpleName());
        }
        Matcher calls = Pattern.compile("\\b([A-Z]\\w*)\\.(\\w+)\\(").matcher(code);
        while (calls.find()) {
            String call = calls.group(1) + "." + calls.group(2);
            expect(own.contains(calls.group(1)) || LIBRARY.contains(call), call + " is allowed");
        }
    }

    private static void checkLengths(String source) {
        Pattern method = Pattern.compile("(?m)^( {4}| {8})(?! )[\\w ]*\\w\\([^)]*\\) \\{\\n(?s:(.*?))^\\1\\}");
        Matcher methods = method.matcher(source);
        int seen = 0;
        while (methods.find()) {
            seen++;
            long lines = methods.group(2).lines().count();
            expect(lines <= LONGEST_METHOD, methods.group().lines().findFirst().orElse("") + " is short");
        }
        expect(seen > 60, "methods are seen: " + seen);
    }

    /** What one object's dearest calls make, all in all: nothing beyond what the machine itself may need. */
    private static void checkNoCallMakesObjects() {
        ThreadMXBean threads = (ThreadMXBean) ManagementFactory.getThreadMXBean();
        long here = Thread.currentThread().getId();
        GameTeller teller = new GameTeller();
        callAll(teller);
        long before = threads.getThreadAllocatedBytes(here);
        for (int i = 0; i < 20; i++) {
            callAll(teller);
        }
        long bytes = threads.getThreadAllocatedBytes(here) - before;
        expect(bytes < 20_000, "calls make no objects, but made " + bytes + " bytes of them");
    }

    private static void callAll(GameTeller teller) {
        teller.game(4, 4, 4, false, false);
        int[] cells = {0, 2, 1, 3, 6, 4, 7, 5, 8, 10, 9, 11, 14, 12, 15, 13};
        for (int cell : cells) {
            teller.play(cell);
        }
        teller.depth(4);
        teller.weight(1, 9);
        for (int n = 0; n <= 16; n++) {
            teller.value(n, 5);
            teller.best(n, 5);
            teller.found(n, 5);
            teller.leader(n);
            teller.words(n, 1);
            teller.worth(n);
        }
        teller.tale(1);
        teller.chosen(100);
        teller.octet(0);
        teller.back();
        teller.plan(0);
        teller.feed(0x62342020, 0, 0, 0, 0);
        teller.read(20);
        teller.look(10);
    }
}
