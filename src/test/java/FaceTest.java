import java.io.IOException;
import java.lang.reflect.Field;
import java.lang.reflect.Member;
import java.lang.reflect.Method;
import java.lang.reflect.Modifier;
import java.nio.charset.StandardCharsets;
import java.nio.file.Files;
import java.nio.file.Path;
import java.util.ArrayList;
import java.util.Arrays;
import java.util.Collections;
import java.util.List;
import java.util.TreeSet;
import java.util.stream.Collectors;

/** The class's face is the document's, and its source keeps to those rules of the language that can be seen from outside. */
public final class FaceTest {
    private static final Path DOCUMENT = Path.of("..", "shared", "DOC.md");
    private static final Path SOURCE = Path.of("src", "main", "java", "GateCounter.java");

    private static int failures;

    public static void main(String[] args) throws IOException {
        List<String> document = Files.readAllLines(DOCUMENT, StandardCharsets.UTF_8);
        faceIsTheDocuments(document);
        nothingElseIsSeen();
        constantsAreAsTold();
        sourceKeepsToTheRules(Files.readString(SOURCE, StandardCharsets.UTF_8));
        System.out.println("FaceTest: " + failures + " wrong");
        System.exit(failures == 0 ? 0 : 1);
    }

    private static void check(boolean holds, String what) {
        if (!holds) {
            failures++;
            System.out.println("face: " + what);
        }
    }

    private static void faceIsTheDocuments(List<String> document) {
        List<String> told = new ArrayList<>();
        for (String line : document) {
            String face = line.strip();
            if (line.startsWith("    public ") && face.contains("(") && !face.startsWith("public GateCounter(")) {
                told.add(face);
            }
        }
        List<String> seen = new ArrayList<>();
        for (Method method : GateCounter.class.getDeclaredMethods()) {
            if (Modifier.isPublic(method.getModifiers())) {
                seen.add(asWritten(method));
            }
        }
        told.replaceAll(FaceTest::withoutParameterNames);
        Collections.sort(told);
        Collections.sort(seen);
        check(told.size() == 62, "the document tells " + told.size() + " methods");
        check(told.equals(seen), "the methods are\n" + seen + "\nthose of the document are\n" + told);
    }

    static String withoutParameterNames(String line) {
        return line.replaceAll("(int|boolean) \\w+([,)])", "$1$2").replace(";", "");
    }

    static String asWritten(Method method) {
        String parameters = Arrays.stream(method.getParameterTypes()).map(Class::getSimpleName).collect(Collectors.joining(", "));
        String thrown = Arrays.stream(method.getExceptionTypes()).map(Class::getSimpleName).collect(Collectors.joining(", "));
        return "public " + method.getReturnType().getSimpleName() + " " + method.getName() + "(" + parameters + ")"
            + (thrown.isEmpty() ? "" : " throws " + thrown);
    }

    private static void nothingElseIsSeen() {
        Class<?> face = GateCounter.class;
        check(Modifier.isPublic(face.getModifiers()) && Modifier.isFinal(face.getModifiers()), "the class is public and final");
        check(face.getConstructors().length == 1 && face.getDeclaredConstructors().length == 1, "there is one constructor");
        TreeSet<String> publicNames = new TreeSet<>();
        for (Method method : face.getDeclaredMethods()) {
            onlyPublicOrPrivate(method);
            if (Modifier.isPublic(method.getModifiers())) {
                publicNames.add(method.getName());
            }
        }
        for (Field field : face.getDeclaredFields()) {
            onlyPublicOrPrivate(field);
        }
        hiddenNamesDiffer(face, publicNames);
        for (Class<?> inside : face.getDeclaredClasses()) {
            check(Modifier.isStatic(inside.getModifiers()) && !Modifier.isPublic(inside.getModifiers()), inside + " is static and hidden");
            hiddenNamesDiffer(inside, publicNames);
        }
    }

    private static void onlyPublicOrPrivate(Member member) {
        check(Modifier.isPublic(member.getModifiers()) || Modifier.isPrivate(member.getModifiers()), member + " is public or private");
    }

    private static void hiddenNamesDiffer(Class<?> inside, TreeSet<String> publicNames) {
        for (Method method : inside.getDeclaredMethods()) {
            check(method.getParameterCount() <= 7, method + " takes at most seven parameters");
            if (!Modifier.isPublic(method.getModifiers())) {
                check(!publicNames.contains(method.getName()), method + " bears a public method's name");
            }
        }
        long fields = Arrays.stream(inside.getDeclaredFields()).filter(field -> !Modifier.isStatic(field.getModifiers())).count();
        check(fields <= 20, inside + " has " + fields + " fields");
    }

    private static void constantsAreAsTold() {
        int[] values = {GateCounter.NONE, GateCounter.NO_ERROR, GateCounter.SYNTAX, GateCounter.OUT_OF_RANGE, GateCounter.REPEATED,
            GateCounter.ORDER, GateCounter.TOO_MANY, GateCounter.LATE, GateCounter.SILENT, GateCounter.SHORT, GateCounter.NO_CLOCK};
        check(Arrays.equals(values, new int[] {-1, 0, 1, 2, 3, 4, 5, 1, 2, 3, 4}), "the constants are " + Arrays.toString(values));
        long seen = Arrays.stream(GateCounter.class.getFields()).filter(field -> field.getType() == int.class).count();
        check(seen == values.length && GateCounter.class.getFields().length == values.length, "there are " + seen + " public constants");
    }

    private static void sourceKeepsToTheRules(String source) {
        String[] ruledOut = {"->", "::", "try", "catch", "finally", "package", "synchronized", "assert", "record", "Integer", "Long",
            "Exact", "while", "instanceof", "System.out", "Object", "hashCode", "toString", "equals"};
        String code = source.replaceAll("(?s)/\\*.*?\\*/", "").replaceAll("//[^\n]*", "").replaceAll("\"[^\"\n]*\"", "\"\"");
        for (String word : ruledOut) {
            check(!code.matches("(?s).*(?<![A-Za-z])" + java.util.regex.Pattern.quote(word) + "(?![A-Za-z]).*"), "the source has " + word);
        }
        check(code.split("import ", -1).length == 2 && code.contains("import java.util.NoSuchElementException;"), "one import");
        check(source.chars().allMatch(sign -> sign < 128), "the source is ASCII");
    }
}
