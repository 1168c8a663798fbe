import java.lang.reflect.Constructor;
import java.lang.reflect.Field;
import java.lang.reflect.Method;
import java.lang.reflect.Modifier;
import java.util.Set;
import java.util.TreeSet;

/** The public face: just the constants, the constructor and the methods of the document. */
public final class FaceTest {
    private static final String[] METHODS = {
        "int globe(int,int,int,int,boolean)", "int fly(int,int)", "int mood(int,int,int)", "int put(int,int)",
        "int say(int)", "int wipe()", "int fault()", "int judge(int)", "int done()", "int behind(int,int)",
        "int then(int)", "int look(int,int)", "int just(int,int)", "int fill(int)", "int vote(int,int)",
        "int rank(int,int)", "int change(int)", "int seen(int,int)", "int forget()", "int who(int)", "int ask(int)",
        "int thumb(int)", "long count(int,int,int,int,int)", "int year(int,int,int)", "int image(int)",
        "int restore(int)", "int told(int)"};

    public static void main(String[] args) {
        Check.due("NONE", GlobeCrown.NONE, -6);
        Check.due("UNKNOWN", GlobeCrown.UNKNOWN, -1);
        Check.due("OUTSIDE", GlobeCrown.OUTSIDE, -2);
        Check.due("STATE", GlobeCrown.STATE, -3);
        Check.due("FULL", GlobeCrown.FULL, -4);
        Check.due("NO", GlobeCrown.NO, -5);
        Check.due("LOST", GlobeCrown.LOST, -1000000000000000000L);
        Check.due("public final class", GlobeCrown.class.getModifiers(), Modifier.PUBLIC | Modifier.FINAL);
        methods();
        fieldsAndConstructors();
        Check.end();
    }

    private static void methods() {
        Set<String> due = new TreeSet<>(Set.of(METHODS));
        Set<String> publicNames = new TreeSet<>();
        for (Method method : GlobeCrown.class.getDeclaredMethods()) {
            if (Modifier.isPrivate(method.getModifiers())) {
                continue;
            }
            StringBuilder text = new StringBuilder(method.getReturnType().getName() + " " + method.getName() + "(");
            for (Class<?> type : method.getParameterTypes()) {
                text.append(text.charAt(text.length() - 1) == '(' ? "" : ",").append(type.getName());
            }
            publicNames.add(method.getName());
            Check.due(text + ") is of the face", due.remove(text.append(')').toString()) ? 1 : 0, 1);
            Check.due(text + " is public", method.getModifiers(), Modifier.PUBLIC);
        }
        Check.due("not there: " + due, due.size(), 0);
        for (Class<?> inside : GlobeCrown.class.getDeclaredClasses()) {
            Check.due(inside + " is static", Modifier.isStatic(inside.getModifiers()) ? 1 : 0, 1);
            for (Method method : inside.getDeclaredMethods()) {
                Check.due(method + " has no name of the face", publicNames.contains(method.getName()) ? 1 : 0, 0);
            }
        }
    }

    private static void fieldsAndConstructors() {
        Set<String> due = new TreeSet<>(Set.of("NONE", "UNKNOWN", "OUTSIDE", "STATE", "FULL", "NO", "LOST"));
        for (Field field : GlobeCrown.class.getDeclaredFields()) {
            if (!Modifier.isPrivate(field.getModifiers())) {
                Check.due(field + " is of the face", due.remove(field.getName()) ? 1 : 0, 1);
            }
        }
        Check.due("not there: " + due, due.size(), 0);
        Constructor<?>[] constructors = GlobeCrown.class.getDeclaredConstructors();
        Check.due("constructors", constructors.length, 1);
        Check.due("parameters", constructors[0].getParameterCount(), 0);
        Check.due("public", constructors[0].getModifiers(), Modifier.PUBLIC);
    }
}
