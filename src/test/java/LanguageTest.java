import java.io.IOException;
import java.lang.reflect.Constructor;
import java.lang.reflect.Field;
import java.lang.reflect.Method;
import java.lang.reflect.Modifier;
import java.nio.file.Files;
import java.nio.file.Path;
import java.util.Set;
import java.util.TreeSet;

/** The face of the document, and those rules of LANGUAGE.md that a program can see easily. */
public final class LanguageTest {
    private static final String FACE = "int average(int,int); int best(int,int,int); int bond(int,int); "
        + "int cargo(int,int); int count(int); int duty(int,int); int force(int,int); int hang(int,int,int,int); "
        + "int sale(int,int,int,int,int); int scale(int,int); int ship(int,int); int sold(int,int); int spoil(int); "
        + "int step(int,int,int); int strike(int); int towns(int,int); int unhang(int); int weekly(int,int,int); "
        + "int weeks(int); long chest(); long gain(int,int,int); long letOut(int,int); long other(int); "
        + "long worth(int); ";
    private static final Check CHECK = new Check();

    public static void main(String[] args) throws IOException {
        face();
        membersOfTheClass();
        classesInside();
        words(Path.of("src/main/java/CornLaws.java"));
        CHECK.end();
    }

    private static void face() {
        Set<String> found = new TreeSet<>();
        for (Method method : CornLaws.class.getDeclaredMethods()) {
            if (Modifier.isPublic(method.getModifiers())) {
                StringBuilder text = new StringBuilder();
                text.append(method.getReturnType()).append(' ').append(method.getName()).append('(');
                for (Class<?> type : method.getParameterTypes()) {
                    text.append(text.charAt(text.length() - 1) == '(' ? "" : ",").append(type);
                }
                found.add(text.append("); ").toString());
            }
        }
        CHECK.same("public methods", String.join("", found), FACE);
        Constructor<?>[] constructors = CornLaws.class.getDeclaredConstructors();
        CHECK.due("constructors", constructors.length, 1);
        CHECK.holds("constructor is public", Modifier.isPublic(constructors[0].getModifiers()));
        CHECK.due("its parameters", constructors[0].getParameterCount(), 0);
        CHECK.holds("class is final", Modifier.isFinal(CornLaws.class.getModifiers()));
    }

    private static void membersOfTheClass() {
        Set<String> open = new TreeSet<>();
        for (Field field : CornLaws.class.getDeclaredFields()) {
            if (!Modifier.isPrivate(field.getModifiers())) {
                open.add(field.getName());
            }
            CHECK.holds(field + " is final where static", !Modifier.isStatic(field.getModifiers())
                || Modifier.isFinal(field.getModifiers()));
        }
        CHECK.same("public fields", open.toString(), "[BAD, FULL, NONE, NOT]");
        for (Method method : CornLaws.class.getDeclaredMethods()) {
            int is = method.getModifiers();
            CHECK.holds(method + " is public or private", Modifier.isPublic(is) || Modifier.isPrivate(is));
            CHECK.holds(method + " bears a name of its own", Modifier.isPublic(is) || !isOfTheFace(method));
        }
    }

    private static void classesInside() {
        for (Class<?> inside : CornLaws.class.getDeclaredClasses()) {
            int is = inside.getModifiers();
            CHECK.holds(inside + " is static", Modifier.isStatic(is));
            CHECK.holds(inside + " is not public", !Modifier.isPublic(is) && !Modifier.isProtected(is));
            CHECK.holds(inside + " has at most 20 fields", inside.getDeclaredFields().length <= 20);
            for (Method method : inside.getDeclaredMethods()) {
                CHECK.holds(method + " bears a name of its own", !isOfTheFace(method));
                CHECK.holds(method + " takes at most seven", method.getParameterCount() <= 7);
            }
        }
    }

    private static boolean isOfTheFace(Method method) {
        return FACE.indexOf(" " + method.getName() + "(") >= 0;
    }

    private static void words(Path source) throws IOException {
        String code = Files.readString(source).replaceAll("(?s)/\\*.*?\\*/", "").replaceAll("//[^\n]*", "");
        for (String word : code.split("[^A-Za-z]+")) {
            CHECK.holds("no word '" + word + "'", !Set.of("import", "package", "throw", "throws", "try", "catch",
                "synchronized", "assert", "volatile", "native", "protected", "record").contains(word));
        }
        CHECK.holds("no arrow and no method reference", !code.contains("->") && !code.contains("::"));
        CHECK.holds("signs 1 to 127 alone", code.chars().allMatch(sign -> sign > 0 && sign < 128));
    }
}
