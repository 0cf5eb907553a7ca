import java.io.IOException;
import java.lang.reflect.Constructor;
import java.lang.reflect.Field;
import java.lang.reflect.Method;
import java.lang.reflect.Modifier;
import java.nio.file.Files;
import java.nio.file.Path;
import java.util.Arrays;
import java.util.Set;
import java.util.TreeSet;
import java.util.regex.Matcher;
import java.util.regex.Pattern;
import java.util.stream.Collectors;

/** Rule 1 of LANGUAGE.md, the document's face, and what other rules say of single words. */
public final class RulesTest {
    private static final Checks C = new Checks("RulesTest");
    private static final String[] FACE = {
        "int write(int)", "int erase()", "int fault()", "int land()", "int one(int,int)", "int comet(int,int)",
        "int as(int,int)", "int cometAs(int,int)", "int degree(int,int,int)", "int kin(int,int)", "int go(int)",
        "int may(int,int)", "int wed(int,int)", "int die(int)", "int owe(int,int,int)", "int debt(int,int)",
        "int pay(int)", "int undo()", "int keep(int)", "int back(int)", "int first(int,int,int)",
        "int last(int,int)", "int bestBorn(int,int,int,int)", "int weddings(int)", "int makes(int)",
        "int feasted(int,int,int,int)", "int forget()", "int truths(int)", "int truth(int)",
        "long left(int,int,int,int)", "int count(int)"};
    private static final String[] FORBIDDEN = {
        "\\bthrow", "\\btry\\b", "\\bcatch\\b", "\\bsynchronized\\b", "\\bassert\\b", "\\bimport\\b", "\\bpackage\\b",
        "->", "::", "\\bdouble\\b", "\\bfloat\\b", "\\bSystem\\.(?!arraycopy)", "Exact\\b", "@", "[^\\x00-\\x7f]"};

    public static void main(String[] args) throws IOException {
        methods();
        otherMembers();
        constants();
        source(Files.readString(Path.of("src/main/java/CometKin.java")));
        C.end();
    }

    private static String signature(Method method) {
        String parameters = Arrays.stream(method.getParameterTypes()).map(Class::getName)
            .collect(Collectors.joining(","));
        return method.getReturnType().getName() + " " + method.getName() + "(" + parameters + ")";
    }

    private static void yes(String what, boolean holds) {
        C.due(what, holds ? 1 : 0, 1);
    }

    private static void methods() {
        Set<String> open = new TreeSet<>();
        Set<String> names = new TreeSet<>();
        for (Method method : CometKin.class.getDeclaredMethods()) {
            if (Modifier.isPublic(method.getModifiers())) {
                open.add(signature(method));
                names.add(method.getName());
            }
        }
        yes("the public methods are those of the face: " + open, open.equals(new TreeSet<>(Arrays.asList(FACE))));
        for (Method method : CometKin.class.getDeclaredMethods()) {
            if (!Modifier.isPublic(method.getModifiers())) {
                yes(method + " is private", Modifier.isPrivate(method.getModifiers()));
                yes(method + " bears no public name", !names.contains(method.getName()));
            }
        }
    }

    private static void otherMembers() {
        Constructor<?>[] constructors = CometKin.class.getDeclaredConstructors();
        C.due("constructors", constructors.length, 1);
        yes("a public one", Modifier.isPublic(constructors[0].getModifiers()));
        C.due("its parameters", constructors[0].getParameterCount(), 0);
        yes("a final class", Modifier.isFinal(CometKin.class.getModifiers()));
        for (Field field : CometKin.class.getDeclaredFields()) {
            if (!Modifier.isPublic(field.getModifiers())) {
                yes(field + " is private", Modifier.isPrivate(field.getModifiers()));
            }
        }
        for (Class<?> inside : CometKin.class.getDeclaredClasses()) {
            yes(inside + " is static", Modifier.isStatic(inside.getModifiers()));
            yes(inside + " is not public", !Modifier.isPublic(inside.getModifiers()));
        }
        yes("twelve classes at most", CometKin.class.getDeclaredClasses().length < 12);
    }

    private static void constants() {
        C.due("public constants", CometKin.class.getFields().length, 5);
        C.due("NONE", CometKin.NONE, -1);
        C.due("UNKNOWN", CometKin.UNKNOWN, -2);
        C.due("OUTSIDE", CometKin.OUTSIDE, -3);
        C.due("NOT", CometKin.NOT, -4);
        C.due("FULL", CometKin.FULL, -5);
    }

    private static void source(String source) {
        String code = source.replaceAll("(?s)/\\*.*?\\*/", "").replaceAll("//.*", "");
        for (String forbidden : FORBIDDEN) {
            Matcher found = Pattern.compile(forbidden).matcher(code);
            yes("nothing like " + forbidden, !found.find());
        }
    }
}
