import java.io.IOException;
import java.lang.reflect.Method;
import java.lang.reflect.Modifier;
import java.nio.file.Files;
import java.nio.file.Path;
import java.util.Arrays;
import java.util.List;
import java.util.Set;
import java.util.TreeSet;
import java.util.regex.Matcher;
import java.util.regex.Pattern;
import java.util.stream.Collectors;

/** The document's face, and those rules of LANGUAGE.md that a test can see. */
public final class LanguageTest {
    private static final String[] FACE = {
        "int lift(int,int) IllegalArgumentException,UnsupportedOperationException",
        "int call(int,int,int,int) IllegalArgumentException,UnsupportedOperationException",
        "int step(int) IllegalArgumentException",
        "int event(int,int) NoSuchElementException,IllegalArgumentException",
        "int level(int) NoSuchElementException,ArrayIndexOutOfBoundsException",
        "int told(int,int) NoSuchElementException,IllegalArgumentException",
        "void door(int,boolean) NoSuchElementException,IllegalStateException",
        "int stuck(int,boolean) NoSuchElementException,IllegalStateException",
        "int reserved(int,boolean) NoSuchElementException,IllegalStateException",
        "int freed() ",
        "int served(int) NoSuchElementException",
        "int waits(int) NoSuchElementException",
        "int least(int) NoSuchElementException",
        "boolean joins(int,int) NoSuchElementException,IllegalStateException",
        "int known(int,int) NoSuchElementException,IllegalArgumentException",
        "int count(int) ",
    };

    /** The last one is not in rule 6's list; promise 6 names it, and the machine must not throw it. */
    private static final Set<String> THROWN = Set.of("IllegalStateException", "IllegalArgumentException",
            "UnsupportedOperationException", "NoSuchElementException", "ArrayIndexOutOfBoundsException");

    public static void main(String[] args) throws IOException {
        face();
        noMemberBesides();
        String code = Files.readString(Path.of("src/main/java/LiftRows2.java"))
                .replaceAll("(?s)/\\*.*?\\*/", "").replaceAll("//[^\n]*", "").replaceAll("\"[^\"\n]*\"", "\"\"");
        words(code);
        throwsByHand(code);
        Due.end();
    }

    private static void face() {
        Set<String> got = new TreeSet<>();
        for (Method method : LiftRows2.class.getDeclaredMethods()) {
            if (!Modifier.isPrivate(method.getModifiers())) {
                got.add(method.getReturnType() + " " + method.getName() + "(" + names(method.getParameterTypes())
                        + ") " + names(method.getExceptionTypes()));
            }
        }
        Due.same("the face", new TreeSet<>(List.of(FACE)).toString(), got.toString());
        Due.holds("public and final", LiftRows2.class.getModifiers() == (Modifier.PUBLIC | Modifier.FINAL));
        Due.is("one constructor", 1, LiftRows2.class.getDeclaredConstructors().length);
        Due.is("it is public", 1, LiftRows2.class.getConstructors().length);
    }

    private static String names(Class<?>[] types) {
        return Arrays.stream(types).map(Class::getSimpleName).collect(Collectors.joining(","));
    }

    private static void noMemberBesides() {
        Set<String> open = Arrays.stream(FACE).map(f -> f.replaceAll("^\\w+ (\\w+).*", "$1"))
                .collect(Collectors.toSet());
        for (var field : LiftRows2.class.getDeclaredFields()) {
            Due.holds("private: " + field.getName(), Modifier.isPrivate(field.getModifiers()));
        }
        for (Class<?> inside : LiftRows2.class.getDeclaredClasses()) {
            Due.holds("static: " + inside.getName(), Modifier.isStatic(inside.getModifiers()));
            for (Method method : inside.getDeclaredMethods()) {
                Due.holds("a name of its own: " + method.getName(), !open.contains(method.getName()));
            }
        }
        for (Method method : LiftRows2.class.getDeclaredMethods()) {
            Due.holds("a name of its own: " + method.getName(),
                    !Modifier.isPrivate(method.getModifiers()) || !open.contains(method.getName()));
        }
    }

    private static void words(String code) {
        String[] none = {"\\btry\\b", "\\bcatch\\b", "\\bfinally\\b", "\\bsynchronized\\b", "\\bassert\\b", "->", "::",
            "\\bpackage\\b", "Exact\\b", "\\bwhile\\b", "\\bdouble\\b", "\\bfloat\\b", "[^=]\\s/\\s", "%",
            "\\bprotected\\b", "\\bSystem\\b", "\\bThread\\b", "\\bRandom\\b"};
        for (String word : none) {
            Due.holds("none of " + word, !Pattern.compile(word).matcher(code).find());
        }
        Matcher imports = Pattern.compile("\\bimport\\s+([\\w.*]+)").matcher(code);
        while (imports.find()) {
            Due.same("import", "java.util.NoSuchElementException", imports.group(1));
        }
    }

    private static void throwsByHand(String code) {
        Matcher thrown = Pattern.compile("\\bthrow\\b(?:\\s+new\\s+(\\w+)\\((?:\"\")?\\);)?").matcher(code);
        int besidesTheList = 0;
        while (thrown.find()) {
            besidesTheList += "ArrayIndexOutOfBoundsException".equals(thrown.group(1)) ? 1 : 0;
            Due.holds("may be thrown: " + thrown.group(), thrown.group(1) != null && THROWN.contains(thrown.group(1)));
        }
        Due.is("thrown for promise 6 alone", 1, besidesTheList);
    }
}
