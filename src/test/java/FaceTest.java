import java.io.IOException;
import java.lang.reflect.Constructor;
import java.lang.reflect.Field;
import java.lang.reflect.Method;
import java.lang.reflect.Modifier;
import java.nio.file.Files;
import java.nio.file.Path;
import java.util.Arrays;
import java.util.Map;
import java.util.TreeMap;
import java.util.TreeSet;
import java.util.regex.Matcher;
import java.util.regex.Pattern;

/** The face of the class is the document's, and the file keeps to the rules that a text can show. */
public final class FaceTest {
    private static final String INDEX = "IndexOutOfBoundsException";
    private static final String ARGUMENT = "IllegalArgumentException";
    private static final String STATE = "IllegalStateException";

    private static int wrong = 0;

    public static void main(String[] args) throws IOException {
        members();
        insideClasses();
        text(Files.readString(Path.of("src/main/java/ContourLabels.java")));
        System.out.println(wrong == 0 ? "the face is the document's" : wrong + " faults");
        if (wrong != 0) {
            System.exit(1);
        }
    }

    private static void due(String what, Object want, Object got) {
        if (!want.equals(got)) {
            wrong++;
            System.out.println(what + " is " + got + ", due is " + want);
        }
    }

    private static void put(Map<String, String> face, String signatures, String exceptions) {
        for (String signature : signatures.split("; ")) {
            face.put(signature, exceptions);
        }
    }

    private static Map<String, String> face() {
        Map<String, String> face = new TreeMap<>();
        put(face, "int begin(int,int); boolean step(int,int)", INDEX + " " + ARGUMENT + " " + STATE);
        put(face, "int setLevel(int,int); int whyNotStepped(int,int)", INDEX + " " + ARGUMENT);
        put(face, "int label(int,int); int unlabel(int); int labelBest(int)", INDEX + " " + STATE);
        put(face, "int wipe(int); int levelOf(int); int stepsOf(int); int pointOf(int,int); int lineAt(int); "
                + "boolean isClosed(int); int bendAt(int,int); double lengthByKinds(int); double lengthBySteps(int); "
                + "int labelOf(int); boolean isTurned(int); int readFrom(int); int sizeOf(int); int bendOf(int,int); "
                + "int whyNotLabelled(int,int); int placesOf(int); int bestPlace(int); "
                + "boolean isWithinByRays(int,int); boolean isWithinBySpreading(int,int); int pointsWithin(int); "
                + "int lineRound(int); boolean isSteady(int); int lineByLevel(int)", INDEX);
        put(face, "int append(int)", ARGUMENT + " " + STATE);
        put(face, "int setGap(int); int runText()", ARGUMENT);
        put(face, "int undo(); int restoreSnapshot()", STATE);
        put(face, "int labelAll(); int lines(); int gap(); int labels(); int tooNear(); int clearText(); "
                + "int errorPosition(); int savedStates(); int takeSnapshot()", "");
        return face;
    }

    private static void members() {
        Map<String, String> found = new TreeMap<>();
        for (Method method : ContourLabels.class.getDeclaredMethods()) {
            if (!Modifier.isPrivate(method.getModifiers()) && !method.isSynthetic()) {
                String parameters = String.join(",",
                        Arrays.stream(method.getParameterTypes()).map(Class::getSimpleName).toList());
                String exceptions = String.join(" ",
                        Arrays.stream(method.getExceptionTypes()).map(Class::getSimpleName).toList());
                String name = method.getReturnType().getSimpleName() + " " + method.getName() + "(" + parameters + ")";
                found.put(name, exceptions);
                due("public: " + name, true, Modifier.isPublic(method.getModifiers()));
                due("static: " + name, false, Modifier.isStatic(method.getModifiers()));
            }
        }
        due("the face", face(), found);
        for (Method method : ContourLabels.class.getDeclaredMethods()) {
            if (Modifier.isPrivate(method.getModifiers())) {
                String name = " " + method.getName() + "(";
                due("a name of the face: " + method, false, found.keySet().stream().anyMatch(it -> it.contains(name)));
            }
        }
        Constructor<?>[] constructors = ContourLabels.class.getDeclaredConstructors();
        due("constructors", 1, constructors.length);
        due("a constructor's parameters", 0, constructors[0].getParameterCount());
        due("the class", Modifier.PUBLIC | Modifier.FINAL, ContourLabels.class.getModifiers());
        for (Field field : ContourLabels.class.getDeclaredFields()) {
            due("private: " + field.getName(), !field.getName().equals("NONE"), Modifier.isPrivate(field.getModifiers()));
        }
    }

    private static void insideClasses() {
        TreeSet<String> names = new TreeSet<>();
        for (Method method : ContourLabels.class.getDeclaredMethods()) {
            if (Modifier.isPublic(method.getModifiers())) {
                names.add(method.getName());
            }
        }
        for (Class<?> inside : ContourLabels.class.getDeclaredClasses()) {
            due("static: " + inside, true, Modifier.isStatic(inside.getModifiers()));
            due("private: " + inside, true, Modifier.isPrivate(inside.getModifiers()));
            for (Method method : inside.getDeclaredMethods()) {
                due("a name of the face: " + method, false, names.contains(method.getName()));
            }
            for (Field field : inside.getDeclaredFields()) {
                boolean changes = Modifier.isStatic(field.getModifiers()) && !Modifier.isFinal(field.getModifiers());
                due("static and not final: " + field, false, changes);
            }
        }
    }

    private static void text(String source) {
        Pattern ruledOut = Pattern.compile("\\bimport\\b|\\bpackage\\b|->|::|\\btry\\b|\\bcatch\\b|\\bfinally\\b"
                + "|\\bassert\\b|\\bsynchronized\\b|\\binstanceof\\b|Exact\\(|\\bstatic \\{|[^\\x00-\\x7f]|\" \\+|\\+ \"");
        Matcher matcher = ruledOut.matcher(source.replaceAll("(?m)//.*$|(?s)/\\*.*?\\*/", ""));
        while (matcher.find()) {
            due("ruled out by LANGUAGE.md", "", matcher.group());
        }
    }
}
