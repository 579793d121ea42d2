import java.io.IOException;
import java.lang.reflect.Constructor;
import java.lang.reflect.Field;
import java.lang.reflect.Method;
import java.lang.reflect.Modifier;
import java.nio.file.Files;
import java.nio.file.Path;
import java.util.ArrayList;
import java.util.List;
import java.util.TreeSet;
import java.util.regex.Matcher;
import java.util.regex.Pattern;

/** The public face of the class, and those rules of LANGUAGE.md that can be seen without a compiler's help. */
public final class FaceTest {
    private static final List<String> FACE = List.of(
            "int type(int)", "int clearText()", "int load()", "int faultKind()", "int clear()",
            "int addPiece(int,int,int,int,int,int)", "int extend(int,int,int,int,int,int,int)",
            "int drop(int)", "int shift(int,int)", "int pieceAt(int,int,int)", "int piece(int,int)",
            "int blockers(int,int)", "int ways(int,int)", "int contact(int,int)", "int hangsTogether(int)",
            "int props(int)", "int standing(int)", "int orders(int)", "int fewestProps(int)",
            "int planned(int,int,boolean)", "int locked(int)", "int firstGroup(int,boolean)",
            "int put(int,int)", "int takeOut(int,int)", "int putAll()", "int ifShift(int,int)",
            "int undo()", "int count(int)", "long digest()");

    private static final String FORBIDDEN_WORDS =
            "\\b(throw|throws|try|catch|synchronized|assert|import|package|protected|volatile|transient|native|"
            + "strictfp|var|yield|Object|Exception|Thread|Random|hashCode|toString|getClass)\\b|->|::";

    private static int wrong = 0;

    public static void main(String[] args) throws IOException {
        members();
        innerClasses();
        source(Files.readString(Path.of("src/main/java/FrameRaiser.java")));
        if (wrong != 0) {
            System.exit(1);
        }
    }

    private static void check(boolean holds, String what) {
        if (!holds) {
            wrong++;
            System.out.println("the face: " + what);
        }
    }

    private static void members() {
        Class<?> face = FrameRaiser.class;
        check(Modifier.isPublic(face.getModifiers()) && Modifier.isFinal(face.getModifiers()), "public and final");
        TreeSet<String> found = new TreeSet<>();
        TreeSet<String> publicNames = new TreeSet<>();
        for (Method method : face.getDeclaredMethods()) {
            if (Modifier.isPublic(method.getModifiers())) {
                found.add(signature(method));
                publicNames.add(method.getName());
            } else {
                check(Modifier.isPrivate(method.getModifiers()), method.getName() + " is neither public nor private");
            }
        }
        check(found.equals(new TreeSet<>(FACE)), "methods are " + found);
        for (Class<?> owner : allClasses()) {
            for (Method method : owner.getDeclaredMethods()) {
                boolean hides = !Modifier.isPublic(method.getModifiers()) && publicNames.contains(method.getName());
                check(!hides, method + " bears a public name");
                check(method.getParameterCount() <= 7, method + " has too many parameters");
            }
            check(owner.getDeclaredFields().length <= 45, owner + " has too many fields");
        }
        Constructor<?>[] makers = face.getDeclaredConstructors();
        check(makers.length == 1 && Modifier.isPublic(makers[0].getModifiers())
                && makers[0].getParameterCount() == 0, "one public constructor without parameters");
        constants(face);
    }

    private static void constants(Class<?> face) {
        TreeSet<String> found = new TreeSet<>();
        for (Field field : face.getDeclaredFields()) {
            int modifiers = field.getModifiers();
            if (Modifier.isPublic(modifiers)) {
                found.add(field.getName());
                check(Modifier.isStatic(modifiers) && Modifier.isFinal(modifiers) && field.getType() == int.class,
                        field.getName() + " is a constant int");
            } else {
                check(Modifier.isPrivate(modifiers), field.getName() + " is private");
            }
            check(!Modifier.isStatic(modifiers) || Modifier.isFinal(modifiers), field.getName() + " is final if static");
        }
        check(found.equals(new TreeSet<>(List.of("BAD", "STATE", "FULL", "NONE"))), "constants are " + found);
        check(FrameRaiser.BAD == -1 && FrameRaiser.STATE == -2 && FrameRaiser.FULL == -3 && FrameRaiser.NONE == -9,
                "the values of the constants");
    }

    private static String signature(Method method) {
        List<String> parameters = new ArrayList<>();
        for (Class<?> parameter : method.getParameterTypes()) {
            parameters.add(parameter.getName());
        }
        return method.getReturnType().getName() + " " + method.getName() + "(" + String.join(",", parameters) + ")";
    }

    private static List<Class<?>> allClasses() {
        List<Class<?>> all = new ArrayList<>(List.of(FrameRaiser.class.getDeclaredClasses()));
        all.add(FrameRaiser.class);
        return all;
    }

    private static void innerClasses() {
        check(allClasses().size() <= 12, "at most twelve classes");
        for (Class<?> inner : FrameRaiser.class.getDeclaredClasses()) {
            int modifiers = inner.getModifiers();
            check(Modifier.isStatic(modifiers), inner + " is static");
            check(!Modifier.isPublic(modifiers) && !Modifier.isProtected(modifiers), inner + " is not public");
        }
    }

    private static void source(String whole) {
        String code = whole.replaceAll("(?s)/\\*.*?\\*/", "").replaceAll("//[^\n]*", "");
        Matcher forbidden = Pattern.compile(FORBIDDEN_WORDS).matcher(code);
        while (forbidden.find()) {
            check(false, "the source has " + forbidden.group());
        }
        check(!code.contains("\""), "the source has a text");
        check(whole.chars().allMatch(c -> c == '\n' || c >= 32 && c < 127), "the source is plain");
        Matcher library = Pattern.compile("\\b(System|Integer|Long|Math|Arrays)\\.\\w+").matcher(code);
        while (library.find()) {
            check(List.of("System.arraycopy", "Integer.bitCount", "Math.min", "Math.max").contains(library.group()),
                    "the source calls " + library.group());
        }
    }
}
