import java.io.IOException;
import java.lang.reflect.Constructor;
import java.lang.reflect.Field;
import java.lang.reflect.Method;
import java.lang.reflect.Modifier;
import java.nio.file.Files;
import java.nio.file.Path;
import java.util.ArrayList;
import java.util.HashSet;
import java.util.List;
import java.util.Set;
import java.util.TreeSet;

/** The public face of the document, and those rules of LANGUAGE.md that can be seen from outside. */
final class FaceTest {
    private static final String[] FACE = {
        "int point(int,int) IllegalArgumentException UnsupportedOperationException",
        "boolean open() IllegalStateException",
        "int split(int,int) IllegalStateException IndexOutOfBoundsException IllegalArgumentException",
        "int merge(int,int,int) IllegalStateException IndexOutOfBoundsException IllegalArgumentException",
        "int transfer(int,int,int,int,int,int) IllegalStateException IndexOutOfBoundsException"
            + " IllegalArgumentException",
        "int ease(int,int,int) IllegalStateException IndexOutOfBoundsException IllegalArgumentException",
        "int release(int,int) IllegalStateException IndexOutOfBoundsException IllegalArgumentException",
        "int lotAt(int,int,int,int) IllegalStateException IllegalArgumentException",
        "int area2(int,int,int) IllegalStateException IndexOutOfBoundsException IllegalArgumentException",
        "int share(int,int,int,int) IllegalStateException IndexOutOfBoundsException IllegalArgumentException",
        "int next(int,int,int,int) IllegalStateException IndexOutOfBoundsException IllegalArgumentException",
        "int burden(int,int,int,int) IllegalStateException IndexOutOfBoundsException IllegalArgumentException",
        "int parent(int,int) IllegalStateException IndexOutOfBoundsException",
        "int child(int,int) IllegalStateException IndexOutOfBoundsException",
        "int corners(int) IllegalStateException IndexOutOfBoundsException",
        "int corner(int,int) IllegalStateException IndexOutOfBoundsException",
        "int many(int) IndexOutOfBoundsException",
        "int word(int) IndexOutOfBoundsException",
        "int sync() IllegalStateException",
        "int crash(int) IllegalStateException IllegalArgumentException",
        "int mount() IllegalStateException UnsupportedOperationException",
    };

    public static void main(String[] args) throws IOException {
        publicFace();
        nothingElse();
        source(Files.readString(Path.of("src/main/java/LandBook.java")));
        Check.end();
    }

    private static String told(Method method) {
        List<String> parameters = new ArrayList<>();
        for (Class<?> type : method.getParameterTypes()) {
            parameters.add(type.getSimpleName());
        }
        StringBuilder text = new StringBuilder();
        text.append(method.getReturnType().getSimpleName()).append(' ').append(method.getName());
        text.append('(').append(String.join(",", parameters)).append(')');
        for (Class<?> type : method.getExceptionTypes()) {
            text.append(' ').append(type.getSimpleName());
        }
        return text.toString();
    }

    private static void publicFace() {
        Set<String> found = new TreeSet<>();
        for (Method method : LandBook.class.getDeclaredMethods()) {
            if (Modifier.isPublic(method.getModifiers())) {
                found.add(told(method));
            }
        }
        Check.due("public methods", new TreeSet<>(List.of(FACE)), () -> found);
        Check.due("NONE", 0, () -> LandBook.NONE);
        Check.that("public and final", LandBook.class.getModifiers() == (Modifier.PUBLIC | Modifier.FINAL));
        Constructor<?>[] constructors = LandBook.class.getDeclaredConstructors();
        Check.that("one public constructor",
                constructors.length == 1 && Modifier.isPublic(constructors[0].getModifiers())
                        && constructors[0].getParameterCount() == 0);
    }

    private static void nothingElse() {
        Set<String> names = new HashSet<>();
        for (Method method : LandBook.class.getDeclaredMethods()) {
            if (Modifier.isPublic(method.getModifiers())) {
                names.add(method.getName());
            }
        }
        for (Method method : LandBook.class.getDeclaredMethods()) {
            if (!Modifier.isPublic(method.getModifiers())) {
                Check.that(method + " is private", Modifier.isPrivate(method.getModifiers()));
                Check.that(method + " has a name of its own", !names.contains(method.getName()));
            }
        }
        for (Field field : LandBook.class.getDeclaredFields()) {
            Check.that(field + " is private, or NONE",
                    Modifier.isPrivate(field.getModifiers()) || field.getName().equals("NONE"));
        }
        for (Class<?> inside : LandBook.class.getDeclaredClasses()) {
            Check.that(inside + " is static", Modifier.isStatic(inside.getModifiers()));
            Check.that(inside + " is not public", !Modifier.isPublic(inside.getModifiers()));
            fewFields(inside);
        }
        Check.that("at most twelve classes", LandBook.class.getDeclaredClasses().length < 12);
        fewFields(LandBook.class);
    }

    private static void fewFields(Class<?> type) {
        int fields = 0;
        for (Field field : type.getDeclaredFields()) {
            boolean isStatic = Modifier.isStatic(field.getModifiers());
            Check.that(field + " is final if static", !isStatic || Modifier.isFinal(field.getModifiers()));
            fields += isStatic ? 0 : 1;
        }
        Check.that("fields of " + type, fields <= 20);
        for (Method method : type.getDeclaredMethods()) {
            Check.that("parameters of " + method, method.getParameterCount() <= 7);
        }
    }

    /** Words that the rules leave out, looked for in the text without its comments. */
    private static void source(String text) {
        String code = text.replaceAll("(?s)/\\*.*?\\*/", "").replaceAll("//[^\n]*", "");
        String[] left = {"::", "synchronized", "assert ", "finally", "package ", "Exact(", "hashCode", "System.out",
            "System.in", "Random", "Thread", "static {", "try ("};
        for (String word : left) {
            Check.that("no " + word, !code.contains(word));
        }
        String withoutCases = code.replaceAll("(case [^;{}]*|default *)->", "");
        Check.that("no lambda", !withoutCases.contains("->"));
        String allowed = "import java\\.util\\.(ArrayList|Arrays|List|Iterator|NoSuchElementException);";
        String imports = code.replaceAll(allowed, "");
        Check.that("imports", !imports.contains("import ") && !imports.contains("java."));
        for (char c : text.toCharArray()) {
            if (c > 126) {
                Check.that("a character above 126", false);
            }
        }
    }
}
