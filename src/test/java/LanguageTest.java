import java.lang.reflect.Constructor;
import java.lang.reflect.Field;
import java.lang.reflect.Method;
import java.lang.reflect.Modifier;
import java.nio.charset.StandardCharsets;
import java.nio.file.Files;
import java.nio.file.Path;
import java.util.Set;
import java.util.TreeSet;
import java.util.regex.Matcher;
import java.util.regex.Pattern;

/** The rules of LANGUAGE.md that can be seen in the source or in the compiled class, and the document's face. */
public final class LanguageTest {
    private static final Due DUE = new Due();
    private static final String[] FACE = {"boolean house(int, int, int)", "boolean thing(int, int, int, int, int)",
        "boolean man(int, int)", "int feed(int, int, int, int, int)", "int law(int)", "int roster(int, int, int)",
        "int orders(int)", "int hours(int)", "int tried(int, int)", "int houseIs(int, int)", "int thingIs(int, int)",
        "int manIs(int, int)", "int load(int, int)", "int duty(int, int)", "int stands(int, int)",
        "int fallsFirst(int)", "int bed(int, int, int)", "int stand(int, int, int)", "int go(int, int)",
        "int felt(int, int, int)", "int twoFelt(int, int, int, int)", "int knocked(int, boolean)", "int fewest(int)",
        "int strike(int, int)", "long bricks(int, int)", "int bread(int)", "int beams(int)",
        "int relieved(int, int, int)", "int heaviest(int)", "boolean seed(int)", "int keep()", "boolean undo()",
        "int check(int)", "int count(int)"};
    private static final Set<String> LIBRARY = Set.of("Math.max", "Math.min", "Math.abs", "Math.floorMod",
        "Integer.bitCount", "Integer.compare", "Integer.numberOfTrailingZeros", "System.arraycopy", "Arrays.fill");

    public static void main(String[] args) throws Exception {
        String source = Files.readString(Path.of("src/main/java/StrongMen.java"), StandardCharsets.US_ASCII);
        String code = bare(source);
        words(code);
        library(code);
        lengths(code);
        face();
        members();
        DUE.end("LanguageTest");
    }

    private static void right(String what, boolean holds) {
        DUE.is(what, holds, true);
    }

    /** The source without its comments, and with every literal of a sign as 0. */
    private static String bare(String source) {
        String code = source.replaceAll("(?s)/\\*.*?\\*/", "").replaceAll("//[^\n]*", "");
        return code.replaceAll("'(\\\\.|[^'\\\\])'", "0");
    }

    private static void words(String code) {
        String[] never = {"throw", "throws", "try", "catch", "synchronized", "assert", "package", "volatile",
            "transient", "native", "double", "float", "String", "Object", "var", "super", "protected"};
        for (String word : never) {
            right("no " + word, !Pattern.compile("\\b" + word + "\\b").matcher(code).find());
        }
        right("no lambda", !code.contains("->"));
        right("no method reference", !code.contains("::"));
        right("no text", !code.contains("\""));
        right("no static block", !Pattern.compile("\\bstatic\\s*\\{").matcher(code).find());
        right("no endless for", !Pattern.compile("for\\s*\\([^;]*;\\s*;").matcher(code).find());
        right("no while", !Pattern.compile("\\bwhile\\b").matcher(code).find());
        Matcher imports = Pattern.compile("import ([^;]*);").matcher(code);
        while (imports.find()) {
            right("import " + imports.group(1), imports.group(1).equals("java.util.Arrays"));
        }
    }

    private static void library(String code) {
        Matcher uses = Pattern.compile("\\b(Math|Integer|Long|System|Arrays|java)\\.(\\w+)").matcher(code);
        while (uses.find()) {
            String use = uses.group();
            right("library: " + use, LIBRARY.contains(use) || use.equals("java.util"));
        }
        right("no Exact", !code.contains("Exact"));
    }

    private static void lengths(String code) {
        String[] lines = code.split("\n");
        int start = -1;
        String end = "";
        for (int k = 0; k < lines.length; k++) {
            Matcher head = Pattern.compile("^(    |        )(\\S.*)\\) \\{$").matcher(lines[k]);
            if (start < 0 && head.find()) {
                start = k;
                end = head.group(1) + "}";
            } else if (start >= 0 && lines[k].equals(end)) {
                right("at most sixty lines: " + lines[start].trim(), k - start < 60);
                recursion(lines, start, k);
                start = -1;
            }
        }
        right("every method was seen to its end", start < 0);
    }

    /** The law's readers call one another, down to the depth that they carry; nothing else comes back to itself. */
    private static void recursion(String[] lines, int start, int end) {
        Matcher head = Pattern.compile("(\\w+)\\(").matcher(lines[start]);
        String name = head.find() ? head.group(1) : "";
        Pattern itself = Pattern.compile("(?<![\\w.])" + name + "\\(");
        for (int k = start + 1; k < end; k++) {
            right("does not call itself: " + name, name.equals("readTest") || !itself.matcher(lines[k]).find());
        }
    }

    private static void face() {
        right("the class is public and final",
            Modifier.isPublic(StrongMen.class.getModifiers()) && Modifier.isFinal(StrongMen.class.getModifiers()));
        Set<String> found = new TreeSet<>();
        for (Method method : StrongMen.class.getDeclaredMethods()) {
            if (!Modifier.isPrivate(method.getModifiers()) && !method.isSynthetic()) {
                StringBuilder parameters = new StringBuilder();
                for (Class<?> type : method.getParameterTypes()) {
                    parameters.append(parameters.length() > 0 ? ", " : "").append(type);
                }
                found.add(method.getReturnType() + " " + method.getName() + "(" + parameters + ")");
                right("public and not static: " + method.getName(), method.getModifiers() == Modifier.PUBLIC);
            }
        }
        right("the document's methods and no others", found.equals(new TreeSet<>(Set.of(FACE))));
        Constructor<?>[] constructors = StrongMen.class.getDeclaredConstructors();
        right("one public constructor", constructors.length == 1 && constructors[0].getParameterCount() == 0
            && Modifier.isPublic(constructors[0].getModifiers()));
        for (Field field : StrongMen.class.getDeclaredFields()) {
            boolean isPublic = Modifier.isPublic(field.getModifiers());
            right("hidden but for NONE: " + field.getName(),
                isPublic == field.getName().equals("NONE") && (isPublic || Modifier.isPrivate(field.getModifiers())));
        }
    }

    private static void members() {
        Class<?>[] inside = StrongMen.class.getDeclaredClasses();
        right("at most twelve classes", inside.length <= 12);
        Set<String> names = new TreeSet<>();
        for (String method : FACE) {
            names.add(method.replaceAll("^\\w+ (\\w+)\\(.*", "$1"));
        }
        oneClass(StrongMen.class);
        for (Class<?> type : inside) {
            int how = type.getModifiers();
            right("static and hidden: " + type, Modifier.isStatic(how) && !Modifier.isPublic(how));
            right("nothing inside: " + type, type.getDeclaredClasses().length == 0);
            oneClass(type);
            for (Method method : type.getDeclaredMethods()) {
                right("not a name of the face: " + method, !names.contains(method.getName()));
            }
        }
    }

    private static void oneClass(Class<?> type) {
        int fields = 0;
        for (Field field : type.getDeclaredFields()) {
            boolean isStatic = Modifier.isStatic(field.getModifiers());
            right("static is final: " + field, !isStatic || Modifier.isFinal(field.getModifiers()));
            right("static is a number: " + field, !isStatic || field.getType() == int.class);
            fields += isStatic ? 0 : 1;
        }
        right("at most twenty fields: " + type, fields <= 20);
        for (Method method : type.getDeclaredMethods()) {
            right("at most seven parameters: " + method, method.getParameterCount() <= 7);
        }
    }
}
