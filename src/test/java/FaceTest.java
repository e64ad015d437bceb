import java.lang.reflect.Constructor;
import java.lang.reflect.Field;
import java.lang.reflect.Member;
import java.lang.reflect.Method;
import java.lang.reflect.Modifier;
import java.nio.file.Files;
import java.nio.file.Path;
import java.util.ArrayList;
import java.util.Arrays;
import java.util.HashSet;
import java.util.List;
import java.util.Set;
import java.util.TreeSet;

/** The class has the document's face and no other, and keeps to what LANGUAGE.md lets be seen from outside. */
public final class FaceTest {
    private static final String[] FACE = {
        "char setKind(char) IllegalArgumentException",
        "int drill(int) IllegalArgumentException UnsupportedOperationException IllegalStateException",
        "int fill(int) IllegalArgumentException UnsupportedOperationException",
        "int hole(int) IllegalArgumentException NoSuchElementException",
        "int cell(int) IndexOutOfBoundsException",
        "int lines()",
        "int symmetries()",
        "int put(int) IndexOutOfBoundsException",
        "int now()",
        "boolean mayJump(int, int) IndexOutOfBoundsException",
        "int jump(int, int) IndexOutOfBoundsException UnsupportedOperationException",
        "int jumps()",
        "int jumpAt(int) NoSuchElementException",
        "int takeBack() NoSuchElementException",
        "int made()",
        "int sweeps()",
        "int leastForm(int) IndexOutOfBoundsException",
        "int setEnd(int) IndexOutOfBoundsException",
        "boolean canEnd()",
        "long ways()",
        "int hint() NoSuchElementException",
        "boolean loses(int, int) IndexOutOfBoundsException UnsupportedOperationException",
        "int reached()",
        "int dead()",
        "int fewest()",
        "int leastSweeps() UnsupportedOperationException NoSuchElementException",
        "int highest() NoSuchElementException",
        "int weigh(int, int) IndexOutOfBoundsException IllegalArgumentException",
        "int weight(int) IndexOutOfBoundsException",
        "boolean isProof()",
        "int fault() NoSuchElementException",
        "boolean isBarred(boolean)",
        "int colour(int, int) IndexOutOfBoundsException IllegalArgumentException",
        "boolean isFit(int) IllegalArgumentException",
        "int value()",
        "int winning() NoSuchElementException",
        "int tell(int) IndexOutOfBoundsException IllegalStateException",
        "int play() UnsupportedOperationException",
        "int faultAt() NoSuchElementException",
        "int clear()",
        "long checksum()",
        "int pegBits() ArithmeticException",
        "double meanJumps()",
        "boolean isSound()",
    };
    private static final String[] BARRED = {"->", "::", "catch", "finally", "synchronized", "assert", "instanceof", "Exact",
        "java.lang", "Object", "floatToIntBits", "static {", "\" +", "+ \""};
    private static int wrong = 0;

    private static void hold(boolean holds, String what) {
        if (!holds) {
            wrong++;
            System.out.println("not so: " + what);
        }
    }

    private static String face(Method method) {
        List<String> parameters = new ArrayList<>();
        for (Class<?> parameter : method.getParameterTypes()) {
            parameters.add(parameter.getSimpleName());
        }
        StringBuilder text = new StringBuilder();
        text.append(method.getReturnType().getSimpleName()).append(' ').append(method.getName());
        text.append('(').append(String.join(", ", parameters)).append(')');
        for (Class<?> thrown : method.getExceptionTypes()) {
            text.append(' ').append(thrown.getSimpleName());
        }
        return text.toString();
    }

    private static void members() {
        Class<?> house = PegshoreHouse.class;
        Set<String> face = new TreeSet<>();
        Set<String> names = new HashSet<>();
        for (Method method : house.getDeclaredMethods()) {
            if (Modifier.isPublic(method.getModifiers())) {
                face.add(face(method));
                names.add(method.getName());
                hold(!Modifier.isStatic(method.getModifiers()), method + " is no static one");
            }
        }
        hold(face.equals(new TreeSet<>(Arrays.asList(FACE))), "the face is the document's: " + face);
        for (Method method : house.getDeclaredMethods()) {
            if (!Modifier.isPublic(method.getModifiers())) {
                hold(Modifier.isPrivate(method.getModifiers()), method + " is private");
                hold(!names.contains(method.getName()), method + " has a name of its own");
            }
        }
        for (Field field : house.getDeclaredFields()) {
            hold(Modifier.isPrivate(field.getModifiers()), field + " is private");
        }
        Constructor<?>[] constructors = house.getDeclaredConstructors();
        hold(constructors.length == 1 && Modifier.isPublic(constructors[0].getModifiers()), "one public constructor");
        hold(Modifier.isFinal(house.getModifiers()) && house.getPackageName().isEmpty(), "final, without a package");
    }

    private static void insides() {
        List<Class<?>> classes = new ArrayList<>(Arrays.asList(PegshoreHouse.class.getDeclaredClasses()));
        hold(classes.size() <= 12, "at most twelve classes");
        for (Class<?> inside : classes) {
            hold(Modifier.isPrivate(inside.getModifiers()) && Modifier.isStatic(inside.getModifiers()), inside + " is private, static");
        }
        classes.add(PegshoreHouse.class);
        for (Class<?> one : classes) {
            int fields = 0;
            for (Field field : one.getDeclaredFields()) {
                boolean isStatic = Modifier.isStatic(field.getModifiers());
                hold(!isStatic || Modifier.isFinal(field.getModifiers()), field + " is a constant");
                fields += isStatic ? 0 : 1;
            }
            hold(fields <= 20, one + " has at most twenty fields");
            for (Member method : one.getDeclaredMethods()) {
                hold(!List.of("equals", "hashCode", "toString").contains(method.getName()), method + " is not written");
            }
        }
    }

    /** Comments are free, so that only code lines are looked at. */
    private static void text() throws java.io.IOException {
        int imports = 0;
        for (String line : Files.readAllLines(Path.of("src/main/java/PegshoreHouse.java"))) {
            String code = line.strip();
            if (code.startsWith("/*") || code.startsWith("*") || code.startsWith("//")) {
                continue;
            }
            imports += code.startsWith("import ") ? 1 : 0;
            for (String barred : BARRED) {
                hold(!code.contains(barred), "the program is without " + barred + ": " + code);
            }
        }
        hold(imports == 1, "one import");
    }

    public static void main(String[] args) throws java.io.IOException {
        members();
        insides();
        text();
        System.out.println(wrong == 0 ? "the face is the document's" : wrong + " things are not so");
        if (wrong != 0) {
            System.exit(1);
        }
    }
}
