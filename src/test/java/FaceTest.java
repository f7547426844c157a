import java.lang.reflect.Constructor;
import java.lang.reflect.Field;
import java.lang.reflect.Method;
import java.lang.reflect.Modifier;
import java.nio.file.Files;
import java.nio.file.Path;
import java.util.Arrays;
import java.util.Set;
import java.util.TreeSet;
import java.util.stream.Collectors;

/** The public face of the document, and what LANGUAGE.md says about the file and can be seen by a look at it. */
public final class FaceTest {
    private static final Check CHECK = new Check();

    private static final String[] FACE = {
        "int append(int,int,int,int,int) IllegalStateException",
        "int truncate(int) IndexOutOfBoundsException",
        "int load() IllegalArgumentException",
        "int errorCode()",
        "int errorPosition()",
        "int count(int) IllegalArgumentException",
        "boolean isConflict(int,int) IndexOutOfBoundsException",
        "int match(int,int) IndexOutOfBoundsException",
        "boolean declare(int,int) IndexOutOfBoundsException IllegalStateException",
        "int assign(int,int) IndexOutOfBoundsException IllegalArgumentException IllegalStateException",
        "int unassign(int,int) IndexOutOfBoundsException NoSuchElementException",
        "int assignAll(int) IndexOutOfBoundsException",
        "int reviewerOf(int,int) IndexOutOfBoundsException",
        "int loadOf(int) IndexOutOfBoundsException",
        "int matchSum(int) IndexOutOfBoundsException",
        "int mostReviews(int) IndexOutOfBoundsException",
        "int bestMatchSum(int) IndexOutOfBoundsException",
        "int setScore(int,int,int) IndexOutOfBoundsException IllegalArgumentException NoSuchElementException",
        "int adjusted(int,int) IndexOutOfBoundsException NoSuchElementException",
        "int normalized(int) IndexOutOfBoundsException NoSuchElementException",
        "double leniency(int) IndexOutOfBoundsException NoSuchElementException",
        "double disagreement(int) IndexOutOfBoundsException NoSuchElementException",
        "int rank(int) IndexOutOfBoundsException NoSuchElementException",
        "int ranked(int,int) IndexOutOfBoundsException",
        "int tieRound(int,int) IndexOutOfBoundsException IllegalArgumentException NoSuchElementException",
        "int setLine(int) IllegalArgumentException",
        "int amount(int,int) IllegalArgumentException IndexOutOfBoundsException",
        "int left(int,int) IllegalArgumentException IndexOutOfBoundsException",
        "int poolLeft(int) IllegalArgumentException",
        "int funded(int) IllegalArgumentException",
        "int bestSum(int) IndexOutOfBoundsException",
        "int lineFor(int,int) IllegalArgumentException",
        "boolean appeal(int,int) IndexOutOfBoundsException NoSuchElementException IllegalStateException",
        "int undo() IllegalStateException"};

    public static void main(String[] args) throws Exception {
        face();
        classesInside();
        file();
        CHECK.end();
    }

    private static void face() {
        Set<String> methods = new TreeSet<>();
        Set<String> names = new TreeSet<>();
        for (Method m : GrantAllocation.class.getDeclaredMethods()) {
            if (!Modifier.isPrivate(m.getModifiers())) {
                methods.add(m.getReturnType() + " " + m.getName() + "("
                        + Arrays.stream(m.getParameterTypes()).map(Class::getName).collect(Collectors.joining(","))
                        + ")" + Arrays.stream(m.getExceptionTypes()).map(e -> " " + e.getSimpleName())
                        .collect(Collectors.joining()));
                names.add(m.getName());
            }
        }
        CHECK.same("the methods", methods, new TreeSet<>(Arrays.asList(FACE)));
        for (Method m : GrantAllocation.class.getDeclaredMethods()) {
            if (Modifier.isPrivate(m.getModifiers())) {
                CHECK.same("the private method " + m.getName() + " bears a public name", names.contains(m.getName()), false);
            }
        }
        for (Field f : GrantAllocation.class.getDeclaredFields()) {
            boolean isFace = f.getName().equals("NONE");
            CHECK.same("the field " + f.getName() + " is public", Modifier.isPublic(f.getModifiers()), isFace);
            CHECK.same("the field " + f.getName() + " is private", Modifier.isPrivate(f.getModifiers()), !isFace);
        }
        Constructor<?>[] constructors = GrantAllocation.class.getDeclaredConstructors();
        CHECK.same("the constructors", constructors.length, 1);
        CHECK.same("the constructor is public", Modifier.isPublic(constructors[0].getModifiers()), true);
        CHECK.same("the class is public and final", GrantAllocation.class.getModifiers(), Modifier.PUBLIC | Modifier.FINAL);
    }

    private static void classesInside() {
        Class<?>[] inside = GrantAllocation.class.getDeclaredClasses();
        CHECK.same("at most twelve classes", inside.length < 12, true);
        for (Class<?> c : inside) {
            CHECK.same(c.getName() + " is static", Modifier.isStatic(c.getModifiers()), true);
            CHECK.same(c.getName() + " is private", Modifier.isPrivate(c.getModifiers()), true);
            long fields = Arrays.stream(c.getDeclaredFields()).filter(f -> !Modifier.isStatic(f.getModifiers())).count();
            CHECK.same(c.getName() + " has at most twenty fields", fields <= 20, true);
            for (Method m : c.getDeclaredMethods()) {
                CHECK.same(m.getName() + " has at most seven parameters", m.getParameterCount() <= 7, true);
            }
        }
    }

    private static void file() throws Exception {
        String source = Files.readString(Path.of("src/main/java/GrantAllocation.java"));
        for (String refused : new String[] {"package ", "->", "::", "catch", "finally", "synchronized", "assert ",
            "Exact(", "@", "var ", "System.out"}) {
            CHECK.same("the file has " + refused, source.contains(refused), false);
        }
        CHECK.same("signs above 126", source.chars().allMatch(c -> c < 127), true);
        for (String line : source.split("\n")) {
            if (line.startsWith("import ")) {
                CHECK.same(line, line.equals("import java.util.Arrays;")
                        || line.equals("import java.util.NoSuchElementException;"), true);
            }
        }
    }
}
