import java.io.IOException;
import java.lang.reflect.Constructor;
import java.lang.reflect.Field;
import java.lang.reflect.Member;
import java.lang.reflect.Method;
import java.lang.reflect.Modifier;
import java.nio.file.Files;
import java.nio.file.Path;
import java.util.ArrayList;
import java.util.Arrays;
import java.util.List;
import java.util.TreeSet;
import java.util.regex.Matcher;
import java.util.regex.Pattern;

/** The rules of LANGUAGE.md that can be looked at from outside; the first argument is the program's file. */
public final class LanguageTest {
    private static final String[] FACE = {
        "int feed(int, int, int, int, int) IllegalStateException",
        "int end(int) IllegalArgumentException",
        "int key() IllegalArgumentException IllegalStateException",
        "void open(int) NoSuchElementException",
        "void agree(int) NoSuchElementException IllegalArgumentException",
        "int message()",
        "int sign(int) NoSuchElementException",
        "int verify() IllegalArgumentException",
        "int back(int, int) IndexOutOfBoundsException IllegalStateException",
        "int result(int) IndexOutOfBoundsException",
        "int count(int)"
    };

    public static void main(String[] args) throws IOException {
        String path = args.length > 0 ? args[0] : "src/main/java/PrimeKeys.java";
        String code = withoutComments(Files.readString(Path.of(path)));
        faceIsTheDocuments();
        innerClassesAreStatic();
        staticFieldsAreFinal();
        forbiddenWords(code);
        importsAreAllowed(code);
        methodsAreShort(code);
        Check.end();
    }

    private static void faceIsTheDocuments() {
        TreeSet<String> got = new TreeSet<>();
        TreeSet<String> names = new TreeSet<>();
        for (Method method : PrimeKeys.class.getDeclaredMethods()) {
            if (!Modifier.isPrivate(method.getModifiers())) {
                got.add(lineOf(method));
                names.add(method.getName());
                Check.isTrue(method + " is public", Modifier.isPublic(method.getModifiers()));
            }
        }
        Check.same("the face", got.toString(), new TreeSet<>(Arrays.asList(FACE)).toString());
        for (Class<?> type : allClasses()) {
            for (Method method : type.getDeclaredMethods()) {
                boolean own = type == PrimeKeys.class && Modifier.isPublic(method.getModifiers());
                Check.isTrue(method + " bears a name of its own", own || !names.contains(method.getName()));
            }
        }
        Constructor<?>[] constructors = PrimeKeys.class.getDeclaredConstructors();
        Check.same("constructors", constructors.length, 1);
        Check.same("the constructor", constructors[0].toString(), "public PrimeKeys()");
        for (Field field : PrimeKeys.class.getDeclaredFields()) {
            isPrivate(field);
        }
        int modifiers = PrimeKeys.class.getModifiers();
        Check.isTrue("the class is public and final", Modifier.isPublic(modifiers) && Modifier.isFinal(modifiers));
    }

    private static String lineOf(Method method) {
        StringBuilder line = new StringBuilder(method.getReturnType().getSimpleName());
        line.append(' ').append(method.getName()).append('(');
        Class<?>[] types = method.getParameterTypes();
        for (int i = 0; i < types.length; i++) {
            line.append(i == 0 ? "" : ", ").append(types[i].getSimpleName());
        }
        line.append(')');
        for (Class<?> thrown : method.getExceptionTypes()) {
            line.append(' ').append(thrown.getSimpleName());
        }
        return line.toString();
    }

    private static void isPrivate(Member member) {
        Check.isTrue(member + " is private", Modifier.isPrivate(member.getModifiers()));
    }

    private static List<Class<?>> allClasses() {
        List<Class<?>> all = new ArrayList<>();
        all.add(PrimeKeys.class);
        all.addAll(Arrays.asList(PrimeKeys.class.getDeclaredClasses()));
        return all;
    }

    private static void innerClassesAreStatic() {
        Check.isTrue("at most twelve classes", allClasses().size() <= 12);
        for (Class<?> type : PrimeKeys.class.getDeclaredClasses()) {
            int modifiers = type.getModifiers();
            Check.isTrue(type + " is static", Modifier.isStatic(modifiers));
            Check.isTrue(type + " is not seen", !Modifier.isPublic(modifiers) && !Modifier.isProtected(modifiers));
        }
    }

    private static void staticFieldsAreFinal() {
        for (Class<?> type : allClasses()) {
            int ownFields = 0;
            for (Field field : type.getDeclaredFields()) {
                boolean shared = Modifier.isStatic(field.getModifiers());
                ownFields += shared ? 0 : 1;
                Check.isTrue(field + " is final", !shared || Modifier.isFinal(field.getModifiers()));
            }
            Check.isTrue(type + " has at most twenty fields", ownFields <= 20);
            for (Method method : type.getDeclaredMethods()) {
                Check.isTrue(method + " takes at most seven", method.getParameterCount() <= 7);
            }
        }
    }

    private static void forbiddenWords(String code) {
        String[] words = {
            "->", "::", "\\bfinally\\b", "\\bsynchronized\\b", "\\bassert\\b", "\\bpackage\\b", "\\bextends\\s+\\w*Exception\\b",
            "\\bstatic\\s*\\{", "Exact\\b", "\\bThread\\b", "\\bRandom\\b", "\\bBigInteger\\b", "\\bMath\\.\\w*random",
            "currentTimeMillis", "nanoTime", "\\bSystem\\.(?!arraycopy)", "\\bArrays\\.(?!copyOf|copyOfRange|fill)\\b",
            "while\\s*\\(\\s*true", "for\\s*\\(\\s*;\\s*;", "\\bdouble\\b", "\\bfloat\\b"
        };
        for (String word : words) {
            Check.isTrue("no " + word, !Pattern.compile(word).matcher(code).find());
        }
    }

    private static void importsAreAllowed(String code) {
        Matcher imports = Pattern.compile("import\\s+([\\w.*]+);").matcher(code);
        List<String> allowed = List.of("java.util.Arrays", "java.util.NoSuchElementException");
        while (imports.find()) {
            Check.isTrue("import of " + imports.group(1), allowed.contains(imports.group(1)));
        }
    }

    // In this file's style a method begins and ends at four or at eight blanks.
    private static void methodsAreShort(String code) {
        String[] lines = code.split("\n");
        for (String margin : new String[] {"    ", "        "}) {
            int start = -1;
            for (int i = 0; i < lines.length; i++) {
                if (lines[i].matches(margin + "[a-zA-Z].*\\) (throws [\\w, ]+ )?\\{")) {
                    start = i;
                }
                if (lines[i].equals(margin + "}") && start >= 0) {
                    Check.isTrue("a short method: " + lines[start].trim(), i - start <= 62);
                    start = -1;
                }
            }
        }
    }

    private static String withoutComments(String code) {
        return code.replaceAll("(?s)/\\*.*?\\*/", "").replaceAll("//[^\n]*", "");
    }
}
