import java.lang.reflect.Constructor;
import java.lang.reflect.Field;
import java.lang.reflect.Method;
import java.lang.reflect.Modifier;
import java.util.Arrays;
import java.util.Set;
import java.util.TreeSet;

/** The class has the constants, the constructor and the methods of the document, and no other member to be seen. */
public final class FaceTest {
    private static final String[] METHODS = {
        "write(int)", "wipe()", "fault()", "lay()", "thing(int,int)", "at(int)", "free(int,int)", "map(int,int)",
        "shows(int,int)", "pass(int)", "burn(int)", "build(int)", "undo()", "way(int,int)", "sure(int,int,int)",
        "pull(int,int,boolean)", "wander(int,int,int)", "wrong(int,int)", "older()", "seen(int)", "forget()",
        "found(int)", "round(int)", "fire(int,int,int)", "land(int,int,int)", "keep()", "back()", "count(int)"};

    public static void main(String[] args) {
        Due.due("BAD", OnlyWhatIsLost.BAD, -1);
        Due.due("NO", OnlyWhatIsLost.NO, -2);
        Due.due("FULL", OnlyWhatIsLost.FULL, -3);
        Due.due("NONE", OnlyWhatIsLost.NONE, -4);
        Class<?> face = OnlyWhatIsLost.class;
        hold("the class is public and final", Modifier.isPublic(face.getModifiers()) && Modifier.isFinal(face.getModifiers()));
        methods(face);
        constants(face);
        constructors(face);
        namesOfPrivateMethods(face);
        Due.end();
    }

    private static void hold(String what, boolean so) {
        Due.due(what, so ? 1 : 0, 1);
    }

    private static void methods(Class<?> face) {
        Set<String> there = new TreeSet<>();
        for (Method method : face.getDeclaredMethods()) {
            if (!Modifier.isPrivate(method.getModifiers())) {
                there.add(nameOf(method));
                hold(method + " is public, its object's own, and answers an int",
                    method.getModifiers() == Modifier.PUBLIC && method.getReturnType() == int.class);
            }
        }
        hold("the methods are " + there, there.equals(new TreeSet<>(Arrays.asList(METHODS))));
    }

    private static String nameOf(Method method) {
        StringBuilder name = new StringBuilder(method.getName()).append("(");
        for (Class<?> type : method.getParameterTypes()) {
            name.append(name.charAt(name.length() - 1) == '(' ? "" : ",").append(type.getName());
        }
        return name.append(")").toString();
    }

    private static void constants(Class<?> face) {
        Set<String> there = new TreeSet<>();
        for (Field field : face.getDeclaredFields()) {
            if (!Modifier.isPrivate(field.getModifiers())) {
                there.add(field.getName());
                hold(field + " is a constant int",
                    field.getType() == int.class
                        && field.getModifiers() == (Modifier.PUBLIC | Modifier.STATIC | Modifier.FINAL));
            }
        }
        hold("the constants are " + there, there.equals(new TreeSet<>(Arrays.asList("BAD", "NO", "FULL", "NONE"))));
    }

    private static void constructors(Class<?> face) {
        Constructor<?>[] there = face.getDeclaredConstructors();
        hold("one public constructor without parameters",
            there.length == 1 && there[0].getParameterCount() == 0 && Modifier.isPublic(there[0].getModifiers()));
    }

    private static void namesOfPrivateMethods(Class<?> face) {
        Set<String> names = new TreeSet<>();
        for (String method : METHODS) {
            names.add(method.substring(0, method.indexOf('(')));
        }
        for (Class<?> inside : face.getDeclaredClasses()) {
            hold(inside + " is static", Modifier.isStatic(inside.getModifiers()));
            hold(inside + " is private", Modifier.isPrivate(inside.getModifiers()));
            for (Method method : inside.getDeclaredMethods()) {
                hold(method + " bears no name of the face", !names.contains(method.getName()));
            }
        }
        for (Method method : face.getDeclaredMethods()) {
            if (Modifier.isPrivate(method.getModifiers())) {
                hold(method + " bears no name of the face", !names.contains(method.getName()));
            }
        }
    }
}
