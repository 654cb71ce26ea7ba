import java.io.IOException;
import java.lang.management.ManagementFactory;
import java.lang.reflect.Field;
import java.lang.reflect.Method;
import java.lang.reflect.Modifier;
import java.nio.file.Files;
import java.nio.file.Path;
import java.util.Arrays;
import java.util.Set;
import java.util.TreeSet;
import java.util.regex.Matcher;
import java.util.regex.Pattern;

/** The public face, the rules of LANGUAGE.md that can be seen from outside, and that calls make no objects. */
final class FaceTests {
    private static final Checks CHECKS = new Checks();
    private static final Path SOURCE = Path.of("src/main/java/FishingKites.java");

    private static final Set<String> FACE = Set.of(
        "int write(long,int)", "int erase()", "int fault()", "int cliff()", "int wind(int,int,int)", "int shoal(int,int)",
        "int ask(int,int)", "int go(int)", "int kite(int,int)", "int where(int,int,int)", "int hinders(int,int,int)",
        "int tangle(int,int,int,int)", "int taking(int,int)", "int keep(int)", "int back(int)",
        "int best(int)", "int allDay(int)", "int laws(int)", "long food(int,int,int,int,int,int)",
        "long cut(int,int,int,int,int)", "int share(int,int)", "int count(int)");

    public static void main(String[] args) throws IOException {
        members();
        nestedClasses();
        words();
        noObjectsByCalls();
        CHECKS.end();
    }

    private static String headOf(Method method) {
        StringBuilder head = new StringBuilder(method.getReturnType().getSimpleName());
        head.append(' ').append(method.getName()).append('(');
        String parameters = Arrays.stream(method.getParameterTypes()).map(Class::getSimpleName)
            .reduce((a, b) -> a + "," + b).orElse("");
        return head.append(parameters).append(')').toString();
    }

    private static void members() {
        Class<?> face = FishingKites.class;
        CHECKS.holds("the class is public and final", Modifier.isPublic(face.getModifiers()) && Modifier.isFinal(face.getModifiers()));
        CHECKS.due("constructors", face.getDeclaredConstructors().length, 1);
        CHECKS.due("public constructors", face.getConstructors().length, 1);
        Set<String> open = new TreeSet<>();
        for (Method method : face.getDeclaredMethods()) {
            if (!Modifier.isPrivate(method.getModifiers())) {
                open.add(headOf(method));
            }
        }
        CHECKS.holds("the methods are those of the document: " + open, open.equals(new TreeSet<>(FACE)));
        Set<String> constants = new TreeSet<>();
        for (Field field : face.getDeclaredFields()) {
            if (!Modifier.isPrivate(field.getModifiers())) {
                constants.add(Modifier.toString(field.getModifiers()) + " " + field.getType() + " " + field.getName());
            }
            boolean isChanging = Modifier.isStatic(field.getModifiers()) && !Modifier.isFinal(field.getModifiers());
            CHECKS.holds("no static state: " + field.getName(), !isChanging);
        }
        Set<String> due = new TreeSet<>();
        for (String name : new String[] {"NONE", "UNKNOWN", "OUTSIDE", "NOT", "FULL"}) {
            due.add("public static final int " + name);
        }
        CHECKS.holds("the constants are those of the document: " + constants, constants.equals(due));
    }

    private static void nestedClasses() {
        Set<String> publicNames = new TreeSet<>();
        for (String head : FACE) {
            publicNames.add(head.substring(head.indexOf(' ') + 1, head.indexOf('(')));
        }
        Class<?>[] nested = FishingKites.class.getDeclaredClasses();
        CHECKS.holds("some twelve classes at most", nested.length < 12);
        for (Class<?> inside : nested) {
            String name = inside.getSimpleName();
            CHECKS.holds(name + " is static", Modifier.isStatic(inside.getModifiers()));
            CHECKS.holds(name + " is not public", !Modifier.isPublic(inside.getModifiers()) && !Modifier.isProtected(inside.getModifiers()));
            for (Method method : inside.getDeclaredMethods()) {
                CHECKS.holds(name + "." + method.getName() + " bears no public name", !publicNames.contains(method.getName()));
                CHECKS.holds(name + "." + method.getName() + " has seven parameters at most", method.getParameterCount() <= 7);
            }
        }
        for (Method method : FishingKites.class.getDeclaredMethods()) {
            boolean isHidden = Modifier.isPrivate(method.getModifiers());
            CHECKS.holds(method.getName() + " bears no public name", !isHidden || !publicNames.contains(method.getName()));
        }
    }

    /** The source without comments and texts in quotes. */
    private static String code() throws IOException {
        String source = Files.readString(SOURCE);
        return source.replaceAll("(?s)/\\*.*?\\*/", "").replaceAll("//[^\n]*", "").replaceAll("\"[^\"\n]*\"", "\"\"");
    }

    private static void words() throws IOException {
        String code = code();
        for (String banned : new String[] {"throw", "throws", "try", "catch", "synchronized", "assert", "package", "var",
            "float", "double", "Object", "System\\.(?!arraycopy)", "Exact", "->", "::", "static \\{", "\\@"}) {
            String bounded = banned.matches("[A-Za-z]+") && !banned.equals("Exact") ? "\\b" + banned + "\\b" : banned;
            CHECKS.holds("the source has no " + banned, !Pattern.compile(bounded).matcher(code).find());
        }
        Matcher imports = Pattern.compile("import ([^;]+);").matcher(code);
        while (imports.find()) {
            CHECKS.holds("import of " + imports.group(1), Set.of("java.util.Arrays", "java.util.ArrayList", "java.util.List").contains(imports.group(1)));
        }
        CHECKS.holds("signs are 1 to 127", code.chars().allMatch(c -> c >= 1 && c <= 127));
        // a method or constructor stands one or two levels inside
        int length = 0;
        String end = null;
        for (String line : code.split("\n")) {
            if (end == null && line.matches("( {4}| {8})\\S.*\\) \\{")) {
                end = line.replaceAll("\\S.*", "") + "}";
                length = 0;
            }
            length++;
            if (line.equals(end)) {
                CHECKS.holds("a method of " + length + " lines", length <= 60);
                end = null;
            }
        }
    }

    private static long run() {
        FishingKites kites = Checks.told("wind 1 0 11 9 4;wind 2 0 11 9 3;gulls 4;stock 50",
            "kite 0 3 5 4 5 0;kite 1 4 4 5 4 1;kite 2 5 3 4 6 2;kite 3 3 2 5 3 0;kite 4 6 5 6 2 1;kite 5 4 1 4 1 2",
            "shoal 0 4 3 1 1 99;shoal 1 5 3 1 1 88;shoal 2 3 3 2 1 77;shoal 3 6 3 0 1 66");
        com.sun.management.ThreadMXBean threads = (com.sun.management.ThreadMXBean) ManagementFactory.getThreadMXBean();
        long id = Thread.currentThread().getId();
        long before = threads.getThreadAllocatedBytes(id);
        for (int i = 0; i < 10; i++) {
            kites.ask(i % 6, 1 + i % 3);
            kites.go(1);
            kites.keep(i % 2);
            kites.best(-1);
            kites.allDay(i % 6);
            kites.laws(0);
            kites.kite(0, 2);
            kites.where(0, 1, i);
            kites.hinders(0, 1, i);
            kites.tangle(0, 1, 1, i);
            kites.taking(i, 3);
            kites.food(i, 3, 5, 3, 8, 0);
            kites.cut(0, i, 9, 5, 0);
            kites.share(100 + i, 2);
            kites.count(i);
            kites.wind(1, i, 0);
            kites.shoal(0, 2);
            kites.write(0x32207761_6cL, 5);
            kites.fault();
            kites.write(59, 1);
            kites.erase();
            kites.back(i % 2);
        }
        kites.write(0x31_2077616cL, 5);
        kites.cliff();
        kites.allDay(-1);
        return threads.getThreadAllocatedBytes(id) - before;
    }

    private static void noObjectsByCalls() {
        long least = Long.MAX_VALUE;
        for (int i = 0; i < 5; i++) {
            least = Math.min(least, run());
        }
        // the measuring itself makes a little
        CHECKS.holds("calls make no objects: " + least + " bytes", least < 2000);
    }
}
