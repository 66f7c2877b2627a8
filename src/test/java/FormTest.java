import java.lang.reflect.Constructor;
import java.lang.reflect.Field;
import java.lang.reflect.Method;
import java.lang.reflect.Modifier;
import java.nio.file.Files;
import java.nio.file.Path;
import java.util.Arrays;
import java.util.Set;
import java.util.TreeSet;
import java.util.regex.Matcher;
import java.util.regex.Pattern;

/** The public face, and those rules of LANGUAGE.md that can be seen from the class or its text. */
final class FormTest {
    private static final Due due = new Due("FormTest");
    private static final String[] FACE = {
        "int reel(int,int,int)", "int lose(int)", "int put(int,int,int,int)", "int get(int,int,int)",
        "int copy(int,int,int,int,int)", "int paint(int,int,int,int)", "int clouds(int,int)", "int sun(int,int,int)",
        "int sky(int,int)", "int feature(int,int,int)", "int sample(int,int,int)", "int forget()", "int teaching()",
        "int grow(int,int)", "int tree(int,int)", "int kind(int,int)", "int many(int,int)", "int weigh(int,int)",
        "int smooth(int,int)", "int mark(int)", "int allow(int,int,boolean)", "int path(int)", "int on(int,int)",
        "int changed(int,int)", "int prove(int,int,int)", "long area(int,int)", "int count(int)", "long digest()"};
    private static final String[] LIBRARY = {"Arrays.fill", "System.arraycopy", "Math.abs", "Math.floorDiv", "Math.min"};

    private FormTest() {
    }

    public static void main(String[] args) throws Exception {
        face();
        insideClasses();
        text(Files.readString(Path.of("src/main/java/FieldTiles.java")));
        due.end();
    }

    private static String line(Method method) {
        StringBuilder line = new StringBuilder();
        for (Class<?> type : method.getParameterTypes()) {
            line.append(line.length() == 0 ? "" : ",").append(type.getName());
        }
        return method.getReturnType().getName() + " " + method.getName() + "(" + line + ")";
    }

    private static void face() {
        due.part("the face");
        Set<String> got = new TreeSet<>();
        Set<String> names = new TreeSet<>();
        for (Method method : FieldTiles.class.getDeclaredMethods()) {
            if (Modifier.isPrivate(method.getModifiers())) {
                continue;
            }
            due.holds(method + " is public, of the object", Modifier.isPublic(method.getModifiers())
                    && !Modifier.isStatic(method.getModifiers()));
            got.add(line(method));
            names.add(method.getName());
        }
        due.holds("the methods are those of the document: " + got, got.equals(new TreeSet<>(Arrays.asList(FACE))));
        for (Method method : FieldTiles.class.getDeclaredMethods()) {
            due.holds(method + " has a name of its own",
                    !Modifier.isPrivate(method.getModifiers()) || !names.contains(method.getName()));
        }
        Set<String> constants = new TreeSet<>();
        for (Field field : FieldTiles.class.getDeclaredFields()) {
            if (!Modifier.isPrivate(field.getModifiers())) {
                due.holds(field + " is a constant", field.toString().startsWith("public static final int "));
                constants.add(field.getName());
            }
        }
        due.holds("the constants are those of the document: " + constants,
                constants.equals(new TreeSet<>(Arrays.asList("NONE", "BAD", "NOT", "FULL"))));
        Constructor<?>[] constructors = FieldTiles.class.getDeclaredConstructors();
        due.is("constructors", constructors.length, 1);
        due.is("its parameters", constructors[0].getParameterCount(), 0);
        due.holds("it is public", Modifier.isPublic(constructors[0].getModifiers()));
        due.holds("the class is public and final",
                FieldTiles.class.toString().equals("class FieldTiles")
                && (FieldTiles.class.getModifiers() & (Modifier.PUBLIC | Modifier.FINAL))
                == (Modifier.PUBLIC | Modifier.FINAL));
    }

    private static void insideClasses() {
        due.part("the classes inside");
        Class<?>[] inside = FieldTiles.class.getDeclaredClasses();
        due.holds("there are at most twelve", inside.length + 1 <= 12);
        for (Class<?> one : inside) {
            due.holds(one + " is static", Modifier.isStatic(one.getModifiers()));
            due.holds(one + " is not public", !Modifier.isPublic(one.getModifiers()));
            int fields = 0;
            for (Field field : one.getDeclaredFields()) {
                boolean fixed = Modifier.isStatic(field.getModifiers());
                due.holds(field + " is final if it is static", !fixed || Modifier.isFinal(field.getModifiers()));
                due.holds(field + " is a number or a row of numbers if it is static",
                        !fixed || Arrays.asList(int.class, long.class, boolean.class, int[].class)
                                .contains(field.getType()));
                fields += fixed ? 0 : 1;
            }
            due.holds(one + " has at most twenty fields", fields <= 20);
            for (Method method : one.getDeclaredMethods()) {
                due.holds(method + " takes at most seven", method.getParameterCount() <= 7);
                due.holds(method + " has no name of the face", !isOfFace(method.getName()));
            }
        }
    }

    private static boolean isOfFace(String name) {
        return Arrays.stream(FACE).anyMatch(line -> line.contains(" " + name + "("));
    }

    private static void text(String whole) {
        due.part("the text");
        String code = whole.replaceAll("(?s)/\\*.*?\\*/", "").replaceAll("//[^\n]*", "");
        for (String word : new String[] {"throw", "throws", "try", "catch", "synchronized", "assert", "package",
            "equals", "hashCode", "toString", "double", "float", "Random", "Thread"}) {
            due.holds("there is no " + word, !Pattern.compile("\\b" + word + "\\b").matcher(code).find());
        }
        due.holds("there is no lambda or method reference", !code.contains("->") && !code.contains("::"));
        Matcher imports = Pattern.compile("import ([^;]*);").matcher(code);
        while (imports.find()) {
            due.holds("Arrays alone is imported: " + imports.group(1), imports.group(1).equals("java.util.Arrays"));
        }
        Matcher calls = Pattern.compile("\\b(Arrays|System|Math|Integer|Long)\\.\\w+").matcher(code);
        while (calls.find()) {
            due.holds(calls.group() + " is allowed", Arrays.asList(LIBRARY).contains(calls.group()));
        }
        due.holds("every loop has a bound", !Pattern.compile("while \\(true|for \\([^;]*;\\s*;").matcher(code).find());
        methods(code);
    }

    /** Methods stay short; constructors and fields' first values alone make objects and rows. */
    private static void methods(String code) {
        String head = "^( {4}| {8})(?:[\\w\\[\\]]+ )*(\\w+)\\([^)]*\\) \\{\n";
        Matcher method = Pattern.compile("(?m)" + head + "(?s:(.*?))^\\1\\}").matcher(code);
        int found = 0;
        while (method.find()) {
            String name = method.group(2);
            boolean isConstructor = Character.isUpperCase(name.charAt(0));
            found += isConstructor ? 0 : 1;
            due.holds(name + " is short", method.group(3).split("\n").length <= 60);
            due.holds(name + " makes nothing",
                    isConstructor || !Pattern.compile("\\bnew\\b").matcher(method.group(3)).find());
        }
        due.holds("all methods were found: " + found, found == declared(FieldTiles.class));
    }

    /** How many methods there are in a class and those inside it. */
    private static int declared(Class<?> one) {
        int number = one.getDeclaredMethods().length;
        for (Class<?> inside : one.getDeclaredClasses()) {
            number += declared(inside);
        }
        return number;
    }
}
