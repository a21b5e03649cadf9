import java.io.IOException;
import java.lang.reflect.Constructor;
import java.lang.reflect.Field;
import java.lang.reflect.Method;
import java.lang.reflect.Modifier;
import java.nio.file.Files;
import java.nio.file.Path;
import java.util.Set;
import java.util.TreeSet;
import java.util.regex.Matcher;
import java.util.regex.Pattern;

/** The face is the document's and no other, and the program keeps to the rules that a text search can see. */
public final class FaceTest {
    public static void main(String[] args) throws IOException {
        Set<String> face = faceOfDocument();
        Set<String> publicNames = new TreeSet<>();
        Set<String> methods = new TreeSet<>();
        for (Method method : HopeBank.class.getDeclaredMethods()) {
            if (Modifier.isPrivate(method.getModifiers())) {
                continue;
            }
            Check.due(method.getName() + " is public", Modifier.isPublic(method.getModifiers()) ? 1 : 0, 1);
            methods.add(signature(method));
            publicNames.add(method.getName());
        }
        Check.due("methods beside the document's " + minus(methods, face), minus(methods, face).size(), 0);
        Check.due("methods that lack " + minus(face, methods), minus(face, methods).size(), 0);
        Check.due("so many methods", methods.size(), 71);
        fieldsAndConstructors();
        privateNames(HopeBank.class, publicNames);
        Check.due("no more than twelve classes", Math.max(12, 1 + HopeBank.class.getDeclaredClasses().length), 12);
        fewFields(HopeBank.class);
        for (Class<?> inside : HopeBank.class.getDeclaredClasses()) {
            Check.due(inside.getName() + " is static", Modifier.isStatic(inside.getModifiers()) ? 1 : 0, 1);
            privateNames(inside, publicNames);
            fewFields(inside);
        }
        words();
        methodsByLines();
        Check.close();
    }

    private static Set<String> faceOfDocument() throws IOException {
        String document = Files.readString(Path.of("../shared/DOC.md"));
        Matcher matcher = Pattern.compile("    public (int \\w+\\([^)]*\\));").matcher(document);
        Set<String> face = new TreeSet<>();
        while (matcher.find()) {
            face.add(matcher.group(1).replaceAll("(int|long) \\w+(?=[,)])", "$1"));
        }
        return face;
    }

    private static String signature(Method method) {
        StringBuilder text = new StringBuilder();
        for (Class<?> type : method.getParameterTypes()) {
            text.append(text.length() == 0 ? "" : ", ").append(type.getName());
        }
        return method.getReturnType().getName() + " " + method.getName() + "(" + text + ")";
    }

    private static Set<String> minus(Set<String> a, Set<String> b) {
        Set<String> rest = new TreeSet<>(a);
        rest.removeAll(b);
        return rest;
    }

    private static void fieldsAndConstructors() {
        for (Field field : HopeBank.class.getDeclaredFields()) {
            boolean due = field.getName().equals("NONE");
            Check.due("field " + field.getName() + " is public", Modifier.isPublic(field.getModifiers()) ? 1 : 0, due ? 1 : 0);
            Check.due("field " + field.getName() + " is private", Modifier.isPrivate(field.getModifiers()) ? 1 : 0, due ? 0 : 1);
        }
        Constructor<?>[] constructors = HopeBank.class.getDeclaredConstructors();
        Check.due("one constructor", constructors.length, 1);
        Check.due("of no parameters", constructors[0].getParameterCount(), 0);
        Check.due("final", Modifier.isFinal(HopeBank.class.getModifiers()) ? 1 : 0, 1);
        Check.due("NONE", HopeBank.NONE, -1);
    }

    private static void privateNames(Class<?> type, Set<String> publicNames) {
        for (Method method : type.getDeclaredMethods()) {
            boolean ownFace = type == HopeBank.class && Modifier.isPublic(method.getModifiers());
            Check.due(type.getName() + "." + method.getName() + " bears a public name",
                !ownFace && publicNames.contains(method.getName()) ? 1 : 0, 0);
            Check.due(type.getName() + "." + method.getName() + " has too many parameters",
                method.getParameterCount() > 7 ? 1 : 0, 0);
        }
    }

    private static void fewFields(Class<?> type) {
        int many = 0;
        for (Field field : type.getDeclaredFields()) {
            boolean constant = Modifier.isStatic(field.getModifiers());
            many += constant ? 0 : 1;
            Check.due(type.getName() + "." + field.getName() + " is static and not final",
                constant && !Modifier.isFinal(field.getModifiers()) ? 1 : 0, 0);
        }
        Check.due(type.getName() + " has no more than twenty fields", Math.max(20, many), 20);
    }

    /** Methods are short; constructors and fields alone make objects and arrays, so that no call fills the room. */
    private static void methodsByLines() throws IOException {
        Pattern head = Pattern.compile("( +)(?:(?:public|private|static|final) )*(\\w+(?:\\[])* )?(\\w+)\\(.*\\) \\{");
        int start = 0;
        String end = "";
        boolean makes = false;
        int number = 0;
        for (String line : Files.readAllLines(Path.of("src/main/java/HopeBank.java"))) {
            number++;
            Matcher matcher = head.matcher(line);
            if (end.isEmpty() && matcher.matches()) {
                start = number;
                end = matcher.group(1) + "}";
                makes = matcher.group(2) == null;
            }
            boolean isNew = line.contains(" new ");
            Check.due("line " + number + " makes an object in a method", isNew && !end.isEmpty() && !makes ? 1 : 0, 0);
            if (!end.isEmpty() && line.equals(end)) {
                Check.due("lines of the method at " + start, Math.max(60, number - start + 1), 60);
                end = "";
            }
        }
        Check.due("the last method has an end", end.length(), 0);
    }

    private static void words() throws IOException {
        String program = Files.readString(Path.of("src/main/java/HopeBank.java"));
        String code = program.replaceAll("(?s)/\\*.*?\\*/", "").replaceAll("//[^\n]*", "");
        Matcher matcher = Pattern.compile("\\b(throw|throws|try|catch|synchronized|assert|hashCode|toString|Exact)\\b|->|::|\\w+Exact\\(")
            .matcher(code);
        while (matcher.find()) {
            Check.due("the program has '" + matcher.group() + "'", 1, 0);
        }
    }
}
