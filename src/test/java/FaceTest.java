import java.lang.reflect.Constructor;
import java.lang.reflect.Field;
import java.lang.reflect.Method;
import java.lang.reflect.Modifier;
import java.util.Arrays;
import java.util.Set;
import java.util.TreeSet;

/** The face is the document's, whole, and nothing else can be seen of the class. */
public final class FaceTest {
    private static final String[] METHODS = {
        "int rung(int,int,int,int)", "int man(int,int,int,int)", "int say(int)", "int wipe()", "int fault()",
        "int judge(int)", "int done()", "int behind(int,int)", "int bears(int,int)", "int then(int)",
        "int climb(int,int)", "int ways(int)", "int leases(int,int)", "int stand(int)",
        "int felt(int,boolean)", "int forget()", "int ups(int)", "int ask(int)", "int down(int,int)",
        "long foot(int,int,int,int)", "int year(int,int,int)", "int image(int)", "int restore(int)", "int told(int)"};
    private static final String[] CONSTANTS = {
        "int NONE", "int UNKNOWN", "int OUTSIDE", "int STATE", "int FULL", "int NO", "long LOST"};

    public static void main(String[] args) {
        Check check = new Check();
        check.holds("public and final", RungRights.class.getModifiers() == (Modifier.PUBLIC | Modifier.FINAL));
        checkMethods(check);
        checkConstants(check);
        Constructor<?>[] constructors = RungRights.class.getDeclaredConstructors();
        check.holds("one public constructor without arguments", constructors.length == 1
            && Modifier.isPublic(constructors[0].getModifiers()) && constructors[0].getParameterCount() == 0);
        for (Class<?> inside : RungRights.class.getDeclaredClasses()) {
            int how = inside.getModifiers();
            check.holds(inside + " is static", Modifier.isStatic(how));
            check.holds(inside + " is not public", !Modifier.isPublic(how) && !Modifier.isProtected(how));
            checkStaticFields(check, inside);
        }
        checkStaticFields(check, RungRights.class);
        check.holds("at most twelve classes", RungRights.class.getDeclaredClasses().length < 12);
        check.end();
    }

    private static void checkMethods(Check check) {
        Set<String> seen = new TreeSet<>();
        Set<String> openNames = new TreeSet<>();
        for (Method method : RungRights.class.getDeclaredMethods()) {
            if (!Modifier.isPrivate(method.getModifiers())) {
                seen.add(told(method));
                openNames.add(method.getName());
                check.holds(method + " is public", Modifier.isPublic(method.getModifiers()));
            }
        }
        check.holds("methods are the document's: " + seen, seen.equals(new TreeSet<>(Arrays.asList(METHODS))));
        checkPrivateNames(check, RungRights.class, openNames);
        for (Class<?> inside : RungRights.class.getDeclaredClasses()) {
            checkPrivateNames(check, inside, openNames);
        }
    }

    private static void checkPrivateNames(Check check, Class<?> owner, Set<String> openNames) {
        for (Method method : owner.getDeclaredMethods()) {
            if (Modifier.isPrivate(method.getModifiers())) {
                check.holds(method + " bears a name of its own", !openNames.contains(method.getName()));
            }
        }
    }

    private static void checkConstants(Check check) {
        Set<String> seen = new TreeSet<>();
        for (Field field : RungRights.class.getDeclaredFields()) {
            if (!Modifier.isPrivate(field.getModifiers())) {
                seen.add(field.getType().getName() + " " + field.getName());
            }
        }
        check.holds("constants are the document's: " + seen, seen.equals(new TreeSet<>(Arrays.asList(CONSTANTS))));
        check.due("NONE", RungRights.NONE, -6);
        check.due("UNKNOWN", RungRights.UNKNOWN, -1);
        check.due("OUTSIDE", RungRights.OUTSIDE, -2);
        check.due("STATE", RungRights.STATE, -3);
        check.due("FULL", RungRights.FULL, -4);
        check.due("NO", RungRights.NO, -5);
        check.due("LOST", RungRights.LOST, -1000000000000000000L);
    }

    private static void checkStaticFields(Check check, Class<?> owner) {
        for (Field field : owner.getDeclaredFields()) {
            if (Modifier.isStatic(field.getModifiers())) {
                check.holds(field + " is final", Modifier.isFinal(field.getModifiers()));
            }
        }
    }

    private static String told(Method method) {
        StringBuilder text = new StringBuilder();
        text.append(method.getReturnType().getName()).append(' ').append(method.getName()).append('(');
        for (Class<?> type : method.getParameterTypes()) {
            if (text.charAt(text.length() - 1) != '(') {
                text.append(',');
            }
            text.append(type.getName());
        }
        return text.append(')').toString();
    }
}
