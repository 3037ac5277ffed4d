import java.io.IOException;
import java.lang.reflect.Constructor;
import java.lang.reflect.Field;
import java.lang.reflect.Method;
import java.lang.reflect.Modifier;
import java.nio.charset.StandardCharsets;
import java.nio.file.Files;
import java.nio.file.Path;
import java.util.ArrayList;
import java.util.List;
import java.util.Set;
import java.util.TreeSet;
import java.util.regex.Matcher;
import java.util.regex.Pattern;

/** The public face to the letter, and the rules of LANGUAGE.md that can be looked up in the text. */
public final class FaceTest {
    private static final Path DOCUMENT = Path.of("../shared/DOC.md");
    private static final Path SOURCE = Path.of("src/main/java/BorderBasis.java");
    private static final Set<String> LIBRARY = Set.of("java.util.Arrays", "java.util.ArrayList", "java.util.List",
        "java.util.Iterator", "java.util.NoSuchElementException");
    private static final String[] FORBIDDEN = {
        "->", "::", "\\bcatch\\b", "\\btry\\b", "\\bfinally\\b", "\\bassert\\b", "\\bsynchronized\\b", "\\bMath\\.\\w+Exact\\b",
        "\\bSystem\\.(?!arraycopy\\b)", "\\bThread\\b", "\\bRandom\\b", "\\bdouble\\s+\\w+\\s*=", "\\.toString\\(",
        "\\.equals\\(", "\\bhashCode\\b", "\\+\\s*\"", "\"\\s*\\+", "\\bObject\\b", "\\bvar\\b", "\\brecord\\b",
        "\\bstatic\\s*\\{", "\\bpackage\\b", "\\binstanceof\\b", "\\[\\]\\s*\\[\\]\\s*\\["};

    private static int made;
    private static int wrong;

    private FaceTest() {
    }

    private static void check(boolean right, String complaint) {
        made++;
        if (!right) {
            wrong++;
            System.out.println(complaint);
        }
    }

    private static String names(Class<?>[] classes) {
        List<String> names = new ArrayList<>();
        for (Class<?> c : classes) {
            names.add(c.getSimpleName());
        }
        return String.join(", ", names);
    }

    private static String told(Method method) {
        String thrown = names(method.getExceptionTypes());
        return "public " + method.getReturnType().getSimpleName() + " " + method.getName()
            + "(" + names(method.getParameterTypes()) + ")" + (thrown.isEmpty() ? "" : " throws " + thrown);
    }

    /** The methods of the document's first code block, without the names of their parameters. */
    private static Set<String> documented(String document) {
        Set<String> methods = new TreeSet<>();
        String block = document.substring(document.indexOf("```java"));
        block = block.substring(0, block.indexOf("\n```"));
        Matcher matcher = Pattern.compile("public \\w+ \\w+\\(.*").matcher(block);
        while (matcher.find()) {
            methods.add(matcher.group().replaceAll("(int|double|boolean) \\w+(?=[,)])", "$1").replace(";", ""));
        }
        return methods;
    }

    private static void checkFace() throws IOException {
        Set<String> methods = documented(Files.readString(DOCUMENT));
        check(methods.size() == 37, "37 methods are documented, not " + methods.size());
        Set<String> names = new TreeSet<>();
        for (Method method : BorderBasis.class.getDeclaredMethods()) {
            if (Modifier.isPublic(method.getModifiers())) {
                check(methods.remove(told(method)), "not in the document: " + told(method));
                check(!Modifier.isStatic(method.getModifiers()), "static: " + method);
                names.add(method.getName());
            }
        }
        check(methods.isEmpty(), "not in the class: " + methods);
        checkHidden(names);
    }

    private static void checkHidden(Set<String> publicNames) {
        for (Method method : BorderBasis.class.getDeclaredMethods()) {
            check(Modifier.isPublic(method.getModifiers()) || Modifier.isPrivate(method.getModifiers()),
                "neither public nor private: " + method);
            check(Modifier.isPublic(method.getModifiers()) || !publicNames.contains(method.getName()),
                "the name of a public method: " + method);
        }
        for (Field field : BorderBasis.class.getDeclaredFields()) {
            check(Modifier.isPrivate(field.getModifiers()) || field.getName().equals("NONE"), "open: " + field);
            check(!Modifier.isStatic(field.getModifiers()) || Modifier.isFinal(field.getModifiers()), "not final: " + field);
        }
        Constructor<?>[] constructors = BorderBasis.class.getDeclaredConstructors();
        check(constructors.length == 1 && constructors[0].getParameterCount() == 0
            && Modifier.isPublic(constructors[0].getModifiers()), "there is one public constructor without parameters");
        check(BorderBasis.NONE == -1, "NONE is -1");
        check(Modifier.isFinal(BorderBasis.class.getModifiers()), "the class is final");
        check(BorderBasis.class.getDeclaredClasses().length < 12, "some twelve classes");
        for (Class<?> inner : BorderBasis.class.getDeclaredClasses()) {
            check(Modifier.isStatic(inner.getModifiers()) && Modifier.isPrivate(inner.getModifiers()), "open: " + inner);
            checkInner(inner, publicNames);
        }
    }

    private static void checkInner(Class<?> inner, Set<String> publicNames) {
        int fields = 0;
        for (Field field : inner.getDeclaredFields()) {
            boolean isStatic = Modifier.isStatic(field.getModifiers());
            fields += isStatic ? 0 : 1;
            check(!isStatic || Modifier.isFinal(field.getModifiers()), "not final: " + field);
        }
        check(fields <= 20, "too many fields: " + inner);
        for (Method method : inner.getDeclaredMethods()) {
            check(!publicNames.contains(method.getName()), "the name of a public method: " + method);
            check(method.getParameterCount() <= 7, "too many parameters: " + method);
        }
    }

    private static void checkText() throws IOException {
        byte[] bytes = Files.readAllBytes(SOURCE);
        boolean ascii = true;
        for (byte b : bytes) {
            ascii &= b > 0;
        }
        check(ascii, "the source is ASCII");
        String text = new String(bytes, StandardCharsets.ISO_8859_1);
        Matcher imports = Pattern.compile("import ([\\w.]+);").matcher(text);
        while (imports.find()) {
            check(LIBRARY.contains(imports.group(1)), "not in the library: " + imports.group(1));
        }
        String code = text.replaceAll("(?s)/\\*.*?\\*/", " ").replaceAll("//[^\n]*", " ");
        for (String pattern : FORBIDDEN) {
            Matcher matcher = Pattern.compile(pattern).matcher(code);
            check(!matcher.find(), "forbidden: " + pattern);
        }
        checkLengths(text);
    }

    /** A method begins at an indentation of 4 or 8 and ends with the brace at the same one. */
    private static void checkLengths(String text) {
        String[] lines = text.split("\n");
        for (int k = 0; k < lines.length; k++) {
            check(lines[k].length() <= 120, "line " + (k + 1) + " is too long");
            Matcher head = Pattern.compile("^( {4}| {8})[^ ].*\\).*\\{$").matcher(lines[k]);
            if (head.matches()) {
                int end = k + 1;
                while (end < lines.length && !lines[end].equals(head.group(1) + "}")) {
                    end++;
                }
                check(end - k <= 60, "line " + (k + 1) + " begins a long method");
            }
        }
    }

    public static void main(String[] args) throws IOException {
        checkFace();
        checkText();
        System.out.println(made + " checks, " + wrong + " wrong");
        System.exit(wrong == 0 ? 0 : 1);
    }
}
