import java.io.IOException;
import java.lang.reflect.Constructor;
import java.lang.reflect.Field;
import java.lang.reflect.Method;
import java.lang.reflect.Modifier;
import java.nio.file.Files;
import java.nio.file.Path;
import java.util.Arrays;
import java.util.Set;
import java.util.TreeSet;
import java.util.regex.Matcher;
import java.util.regex.Pattern;

/** The rules of LANGUAGE.md that can be seen from outside or in the text, and that no call ever throws. */
public final class LanguageTest {
    private static final Set<String> FACE = Set.of(
        "int post(int, int, long)", "int cancel(int)", "int filter(int, int, int)", "int restart(int)",
        "int isOn(int)", "int sendErrors(int)", "int receiveErrors(int)", "int waiting(int)",
        "int received(int)", "int missed(int)", "int frameAt(int, int)", "long dataAt(int, int)",
        "int take(int)", "int run(int)", "int disturb(int)", "int time()", "int wire()",
        "int underWay()", "int sent()", "int bitsOf(int, int, long)");
    private static final Set<String> CONSTANTS = Set.of("BAD", "NONE", "FULL", "EXISTS", "BUSY");
    private static final String[] FORBIDDEN_WORDS = {"import", "package", "throw", "throws", "try", "catch",
        "synchronized", "assert", "instanceof", "null", "float", "double", "String", "Math", "Integer", "Long",
        "System", "Arrays", "Object", "protected", "interface", "enum", "record", "extends", "implements"};

    private static int wrong = 0;

    private static void hold(String what, boolean holds) {
        if (!holds) {
            wrong++;
            System.out.println("does not hold: " + what);
        }
    }

    private static boolean isNumberType(Class<?> type) {
        return type.isPrimitive() && type != float.class && type != double.class;
    }

    private static String signature(Method method) {
        String types = Arrays.toString(method.getParameterTypes());
        return method.getReturnType() + " " + method.getName() + "(" + types.substring(1, types.length() - 1) + ")";
    }

    private static void face() {
        hold("the class is public and final", WireNetwork.class.getModifiers() == (Modifier.PUBLIC | Modifier.FINAL));
        Constructor<?>[] constructors = WireNetwork.class.getDeclaredConstructors();
        hold("one constructor, without arguments, public", constructors.length == 1
            && constructors[0].getParameterCount() == 0 && constructors[0].getModifiers() == Modifier.PUBLIC);
        hold("no nested class", WireNetwork.class.getDeclaredClasses().length == 0);
        Set<String> publicOnes = new TreeSet<>();
        Set<String> publicNames = new TreeSet<>();
        for (Method method : WireNetwork.class.getDeclaredMethods()) {
            if (Modifier.isPublic(method.getModifiers())) {
                hold("not static: " + method, !Modifier.isStatic(method.getModifiers()));
                publicOnes.add(signature(method));
                publicNames.add(method.getName());
            }
        }
        hold("the public methods are the document's: " + publicOnes, publicOnes.equals(FACE));
        for (Method method : WireNetwork.class.getDeclaredMethods()) {
            if (!Modifier.isPublic(method.getModifiers())) {
                hold("private: " + method, Modifier.isPrivate(method.getModifiers()));
                hold("no public name: " + method, !publicNames.contains(method.getName()));
            }
            hold("at most seven parameters: " + method, method.getParameterCount() <= 7);
            hold("no array is answered: " + method, !method.getReturnType().isArray());
        }
    }

    private static void fields() {
        Set<String> publicOnes = new TreeSet<>();
        int count = 0;
        for (Field field : WireNetwork.class.getDeclaredFields()) {
            Class<?> type = field.getType();
            Class<?> element = type.isArray() ? type.getComponentType() : type;
            hold("number or array of numbers: " + field, isNumberType(element));
            if (Modifier.isPublic(field.getModifiers())) {
                publicOnes.add(field.getName());
                hold("a constant: " + field, Modifier.isStatic(field.getModifiers()) && type == int.class);
            } else {
                hold("private: " + field, Modifier.isPrivate(field.getModifiers()));
            }
            if (Modifier.isStatic(field.getModifiers())) {
                hold("final: " + field, Modifier.isFinal(field.getModifiers()));
                hold("int or long: " + field, type == int.class || type == long.class);
            } else {
                count++;
            }
        }
        hold("the public constants are the document's: " + publicOnes, publicOnes.equals(CONSTANTS));
        hold("at most forty fields: " + count, count <= 40);
    }

    private static String withoutComments(String text) {
        return text.replaceAll("(?s)/\\*.*?\\*/", "").replaceAll("//[^\n]*", "");
    }

    private static void text() throws IOException {
        String text = withoutComments(Files.readString(Path.of("src/main/java/WireNetwork.java")));
        for (String word : FORBIDDEN_WORDS) {
            hold("not used: " + word, !Pattern.compile("\\b" + word + "\\b").matcher(text).find());
        }
        hold("no lambda", !text.contains("->"));
        hold("no method reference", !text.contains("::"));
        hold("no text", text.indexOf('"') < 0);
        hold("nothing but arrays is made, and those in initialisers",
            !Pattern.compile("(?m)\\bnew\\b(?! (int|long|boolean)\\[[A-Z_]+\\];)").matcher(text).find()
            && !Pattern.compile("(?m)^ {5,}.*\\bnew\\b").matcher(text).find());
        // A call inside the brackets of another one, the brackets of if, for and while left aside.
        Matcher nested = Pattern.compile("\\b(?!if\\b|for\\b|while\\b|switch\\b|return\\b)[a-z]\\w*\\((?:[^()]|\\([^()]*\\))*?\\b[a-z]\\w*\\(")
            .matcher(text);
        boolean isNested = nested.find();
        hold("no call inside the arguments of another one: " + (isNested ? nested.group() : ""), !isNested);
    }

    /** Far more calls than the document allows, with numbers at every edge: none may throw. */
    private static void neverThrows() {
        int[] numbers = {Integer.MIN_VALUE, -2048, -9, -1, 0, 1, 2, 3, 4, 5, 6, 8, 9, 16, 64, 1000, 1001,
            2000, 2001, 2047, 2048, 4096, 6145, 8191, 8192, Integer.MAX_VALUE};
        WireNetwork x = new WireNetwork();
        for (int round = 0; round < 8; round++) {
            for (int a : numbers) {
                x.cancel(a);
                x.restart(a);
                x.isOn(a);
                x.sendErrors(a);
                x.receiveErrors(a);
                x.waiting(a);
                x.received(a);
                x.missed(a);
                x.disturb(round % 2 == 0 ? 20 : a);
                x.run(a);
                for (int b : numbers) {
                    x.frameAt(a, b);
                    x.dataAt(a, b);
                    x.post(a, b, 0x0123456789abcdefL * b);
                    x.bitsOf(a, b, Long.MIN_VALUE >> (b & 63));
                    x.disturb(15 + (b & 15));
                    x.run(31 + (b & 63));
                    x.filter(a, b, b);
                    x.filter(a, 0, 0);
                }
                x.take(round % 2 == 0 ? a : 1);
            }
        }
        hold("time goes on", x.time() > 0);
    }

    public static void main(String[] args) throws IOException {
        face();
        fields();
        text();
        neverThrows();
        System.out.println(wrong == 0 ? "all rules that are looked at hold" : wrong + " rules do not hold");
        if (wrong != 0) {
            System.exit(1);
        }
    }
}
