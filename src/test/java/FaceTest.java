import java.lang.reflect.Constructor;
import java.lang.reflect.Field;
import java.lang.reflect.Method;
import java.lang.reflect.Modifier;
import java.util.Set;
import java.util.TreeSet;

/** The document's public face, and LANGUAGE.md's rules 1 and 11 as far as the compiled class shows them. */
public final class FaceTest {
    private static final Check CHECK = new Check("FaceTest");
    private static final Set<String> METHODS = Set.of(
            "int letter(int)", "int blank()", "int fault()", "int take()", "int drop(int)",
            "int turn(int,int,boolean)", "int bend(int,int,int)", "int head(int,int)", "int depth(int,int,int)",
            "int ground(int,int,int,int,int,int)", "int tile(int,int,int,int,int)",
            "int byTurns(int,int,int,int,int)", "int best(int,int,int)",
            "int field(int,int,int,int,int,int,int)", "int count(int)", "long digest()");

    public static void main(String[] args) {
        constants();
        methods();
        members();
        CHECK.end();
    }

    private static void dueTrue(String what, boolean holds) {
        CHECK.due(what, holds ? 1 : 0, 1);
    }

    private static void constants() {
        CHECK.due("NONE", CanDepths.NONE, -1000001);
        CHECK.due("UNKNOWN", CanDepths.UNKNOWN, -1000002);
        CHECK.due("OUTSIDE", CanDepths.OUTSIDE, -1000003);
        CHECK.due("STATE", CanDepths.STATE, -1000004);
        CHECK.due("FULL", CanDepths.FULL, -1000005);
        CHECK.due("public fields", CanDepths.class.getFields().length, 5);
    }

    private static String told(Method method) {
        StringBuilder text = new StringBuilder(method.getReturnType() + " " + method.getName() + "(");
        for (Class<?> type : method.getParameterTypes()) {
            text.append(text.charAt(text.length() - 1) == '(' ? "" : ",").append(type);
        }
        return text.append(")").toString();
    }

    private static void methods() {
        Set<String> have = new TreeSet<>();
        for (Method method : CanDepths.class.getDeclaredMethods()) {
            if (Modifier.isPrivate(method.getModifiers())) {
                continue;
            }
            have.add(told(method));
            dueTrue(told(method) + " is public", Modifier.isPublic(method.getModifiers()));
        }
        dueTrue("the methods are those of the document: " + have, have.equals(METHODS));
        dueTrue("the class is public and final", CanDepths.class.getModifiers() == (Modifier.PUBLIC | Modifier.FINAL));
    }

    private static void members() {
        Set<String> faceNames = new TreeSet<>();
        METHODS.forEach(face -> faceNames.add(face.substring(face.indexOf(' ') + 1, face.indexOf('('))));
        for (Constructor<?> made : CanDepths.class.getDeclaredConstructors()) {
            dueTrue("one public constructor without parameters",
                    Modifier.isPublic(made.getModifiers()) && made.getParameterCount() == 0);
        }
        for (Field field : CanDepths.class.getDeclaredFields()) {
            boolean ofTheFace = Modifier.isPublic(field.getModifiers());
            dueTrue(field.getName() + " is private", ofTheFace || Modifier.isPrivate(field.getModifiers()));
        }
        for (Method method : CanDepths.class.getDeclaredMethods()) {
            dueTrue(told(method) + " takes at most seven", method.getParameterCount() <= 7);
            boolean hidden = Modifier.isPrivate(method.getModifiers());
            dueTrue(told(method) + " has a name of its own", !hidden || !faceNames.contains(method.getName()));
        }
        for (Class<?> inside : CanDepths.class.getDeclaredClasses()) {
            dueTrue(inside + " is static", Modifier.isStatic(inside.getModifiers()));
            dueTrue(inside + " is not public", !Modifier.isPublic(inside.getModifiers()));
            for (Method method : inside.getDeclaredMethods()) {
                dueTrue(told(method) + " has a name of its own", !faceNames.contains(method.getName()));
                dueTrue(told(method) + " takes at most seven", method.getParameterCount() <= 7);
            }
        }
    }
}
