import java.io.IOException;
import java.lang.reflect.Constructor;
import java.lang.reflect.Field;
import java.lang.reflect.Method;
import java.lang.reflect.Modifier;
import java.nio.file.Files;
import java.nio.file.Path;
import java.util.Set;
import java.util.TreeSet;

/** The public face, and rules of LANGUAGE.md that can be seen from outside or in the text. */
public final class FaceTest {
    private static final Check CHECK = new Check("FaceTest");
    private static final String[] FACE = {"int sign(int)", "boolean end(int)", "int field()", "int people()", "int rule()",
        "int furrow(int,int) java.util.NoSuchElementException", "int person(int,int) java.util.NoSuchElementException",
        "int sheet(int,int,int,int)", "int crossing(int)", "int show(int)", "int glance(int,int)", "int rope(int,int)",
        "int sow(int,int)", "int week()", "int undo()", "int later(int)", "int settles()", "int leaves(int)",
        "int signs(int,int)", "int empties(int)", "int weakest(int)", "int mean()", "int depends(int)",
        "int cut(int,int)", "int faces()", "int knows(int)", "int circle()", "int spreads(int)", "int unlike()",
        "int dig(int,int)", "int forget()", "int courses()", "int sure()", "int next()", "int dues(int)",
        "int cheapest(int)", "int yard(int)", "int harvest(int)", "int owed(int,int)", "int floods(int,int,int)",
        "int twice(int,int)", "int rests(int,int)", "int law()", "int years(int,int)", "boolean keep(int)",
        "boolean again(int)", "int count(int)", "long row(int) java.util.NoSuchElementException"};

    public static void main(String[] args) throws IOException {
        methods();
        members();
        nested();
        source();
        CHECK.finish();
    }

    private static void methods() {
        Set<String> due = new TreeSet<>(Set.of(FACE));
        Set<String> got = new TreeSet<>();
        for (Method method : RopeRemembers.class.getDeclaredMethods()) {
            if (!Modifier.isPrivate(method.getModifiers())) {
                got.add(told(method));
                CHECK.due(method + " is public", method.getModifiers(), Modifier.PUBLIC);
            }
        }
        CHECK.same("the face", got.toString(), due.toString());
    }

    private static String told(Method method) {
        StringBuilder types = new StringBuilder();
        for (Class<?> type : method.getParameterTypes()) {
            types.append(types.length() > 0 ? "," : "").append(type.getName());
        }
        StringBuilder told = new StringBuilder();
        told.append(method.getReturnType().getName()).append(' ').append(method.getName());
        told.append('(').append(types).append(')');
        for (Class<?> thrown : method.getExceptionTypes()) {
            told.append(' ').append(thrown.getName());
        }
        return told.toString();
    }

    private static void members() {
        CHECK.due("final and public", RopeRemembers.class.getModifiers(), Modifier.PUBLIC | Modifier.FINAL);
        Constructor<?>[] made = RopeRemembers.class.getDeclaredConstructors();
        CHECK.due("constructors", made.length, 1);
        CHECK.due("constructor's parameters", made[0].getParameterCount(), 0);
        CHECK.due("constructor is public", made[0].getModifiers(), Modifier.PUBLIC);
        for (Field field : RopeRemembers.class.getDeclaredFields()) {
            boolean none = field.getName().equals("NONE");
            CHECK.due(field + " is private", Modifier.isPrivate(field.getModifiers()), !none);
            still(field);
        }
    }

    private static void still(Field field) {
        if (Modifier.isStatic(field.getModifiers())) {
            CHECK.due(field + " is final", Modifier.isFinal(field.getModifiers()), true);
        }
    }

    private static void nested() {
        Set<String> names = new TreeSet<>();
        for (String told : FACE) {
            names.add(told.substring(told.indexOf(' ') + 1, told.indexOf('(')));
        }
        Class<?>[] classes = RopeRemembers.class.getDeclaredClasses();
        CHECK.due("at most twelve classes", classes.length <= 12, true);
        privateNames(RopeRemembers.class, names);
        for (Class<?> inside : classes) {
            CHECK.due(inside + " is static", Modifier.isStatic(inside.getModifiers()), true);
            CHECK.due(inside + " is private", Modifier.isPrivate(inside.getModifiers()), true);
            privateNames(inside, names);
            for (Field field : inside.getDeclaredFields()) {
                still(field);
            }
        }
    }

    private static void privateNames(Class<?> type, Set<String> names) {
        for (Method method : type.getDeclaredMethods()) {
            boolean ofFace = Modifier.isPublic(method.getModifiers());
            CHECK.due(method + " has a name of its own", ofFace || !names.contains(method.getName()), true);
            CHECK.due(method + " has seven parameters at most", method.getParameterCount() <= 7, true);
        }
    }

    private static void source() throws IOException {
        String text = Files.readString(Path.of("src/main/java/RopeRemembers.java"));
        String[] never = {"->", "::", "finally", "synchronized", "assert ", "catch", "@", "Exact", "package ", "import static",
            "double", "float", "\" +", "+ \"", "System.out", "while (true)", "for (;;)", "\t"};
        for (String word : never) {
            CHECK.due("'" + word + "' in the text", text.contains(word), false);
        }
        CHECK.due("signs beyond 127", text.chars().anyMatch(c -> c > 127), false);
        CHECK.due("imports", text.split("import ", -1).length - 1, 1);
    }
}
