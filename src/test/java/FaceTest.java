import java.lang.reflect.Constructor;
import java.lang.reflect.Field;
import java.lang.reflect.Method;
import java.lang.reflect.Modifier;
import java.util.Arrays;
import java.util.HashSet;
import java.util.Set;
import java.util.TreeSet;

/** The public face of the document, and the names that it leaves to other methods. */
public final class FaceTest {
    private static final String[] FACE = {
        "int append(int,int,int,int,int)", "int parse(int)", "int errorPosition()", "int size(int)", "int find()",
        "int block(int,int)", "int place(int)", "int session(int,int)", "int entry(int,int,int)",
        "int file(int,int)", "int where(int,int)", "int defect(int,boolean)", "int whyNotWrite(int,int)",
        "int whyNot(int)", "int couldRecover()", "int risk(int)", "int weakest()", "int filesBefore(int)",
        "int space(int)", "int spaceOf(int,int)", "double share()", "int write(int,int,int)", "int erase(int)",
        "int close()", "int crash()", "int recover()", "boolean scratch(int)", "boolean setScan(boolean)",
        "int undo()", "boolean saveSnapshot(int)", "int restoreSnapshot(int)"
    };

    public static void main(String[] args) {
        checkMembers();
        checkNames();
        Check.end();
    }

    private static String face(Method method) {
        StringBuilder text = new StringBuilder();
        for (Class<?> type : method.getParameterTypes()) {
            text.append(text.length() == 0 ? "" : ",").append(type.getSimpleName());
        }
        return method.getReturnType().getSimpleName() + " " + method.getName() + "(" + text + ")";
    }

    private static void checkMembers() {
        Set<String> due = new TreeSet<>(Arrays.asList(FACE));
        Set<String> found = new TreeSet<>();
        for (Method method : OnceDisc.class.getDeclaredMethods()) {
            if (!Modifier.isPrivate(method.getModifiers()) && !method.isSynthetic()) {
                Check.isTrue(method + " is public and not static", method.getModifiers() == Modifier.PUBLIC);
                found.add(face(method));
            }
        }
        Check.equal("the methods that are not private", found.toString(), due.toString());
        for (Field field : OnceDisc.class.getDeclaredFields()) {
            if (!Modifier.isPrivate(field.getModifiers())) {
                Check.equal("a field that is not private", field.getName(), "NONE");
            }
            if (Modifier.isStatic(field.getModifiers())) {
                Check.isTrue(field + " is final", Modifier.isFinal(field.getModifiers()));
            }
        }
        Constructor<?>[] constructors = OnceDisc.class.getDeclaredConstructors();
        Check.equal("constructors", constructors.length, 1);
        Check.isTrue("the constructor is public", Modifier.isPublic(constructors[0].getModifiers()));
        Check.equal("NONE", OnceDisc.NONE, -1);
        Check.isTrue("the class is final", Modifier.isFinal(OnceDisc.class.getModifiers()));
    }

    private static void checkNames() {
        Set<String> face = new HashSet<>();
        for (String method : FACE) {
            face.add(method.substring(method.indexOf(' ') + 1, method.indexOf('(')));
        }
        for (Method method : OnceDisc.class.getDeclaredMethods()) {
            boolean hidden = Modifier.isPrivate(method.getModifiers());
            Check.isTrue(method + " has a name of its own", !hidden || !face.contains(method.getName()));
        }
        for (Class<?> inside : OnceDisc.class.getDeclaredClasses()) {
            boolean seen = Modifier.isPublic(inside.getModifiers()) || Modifier.isProtected(inside.getModifiers());
            Check.isTrue(inside + " is not seen outside", !seen);
        }
    }
}
