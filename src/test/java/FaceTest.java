import java.lang.reflect.Constructor;
import java.lang.reflect.Field;
import java.lang.reflect.Method;
import java.lang.reflect.Modifier;
import java.util.Set;
import java.util.TreeSet;

/** The public face, and promise 1. */
public final class FaceTest {
    private static final String[] FACE = {
        "int feed(int,int,int,int,int)", "boolean end(int)", "int office()", "int fault()",
        "int cause(int,int)", "int odds(int,int)", "int deed(int,int)", "int clerk(int,int)",
        "int now(int)", "int take(int,int)", "int act(int,int)", "int drop(int)", "int weeks(int)",
        "int undo()", "int nearest(int,int)", "int near(int,int)", "int orders(int,int)",
        "int ways(int,int)", "int value(int,int)", "int match()", "int matched(int)",
        "int rests(int)", "int parts(int)", "int plot(int)", "int fair(int,int)",
        "int school(int,int)", "int best(int)", "int flags(int)", "int tried()", "int pay(int)",
        "int dies(int)", "int saddest()", "int drawn(int,int)", "int risk(int,int)",
        "int ledger(int)", "int booked(int)", "int sentence()", "int said(int)",
        "boolean image(int)", "boolean restore(int)", "int count(int)"
    };

    public static void main(String[] args) {
        publicMembers();
        newObject();
        Check.finish();
    }

    private static void publicMembers() {
        Set<String> due = new TreeSet<>(Set.of(FACE));
        Set<String> got = new TreeSet<>();
        Set<String> names = new TreeSet<>();
        for (Method m : LostCauses.class.getDeclaredMethods()) {
            if (!Modifier.isPrivate(m.getModifiers())) {
                got.add(signature(m));
                names.add(m.getName());
            }
        }
        if (!due.equals(got)) {
            System.out.println("the face is " + got + ", due is " + due);
            Check.due("methods of the face", 0, 1);
        }
        int fields = 0;
        for (Field f : LostCauses.class.getDeclaredFields()) {
            fields += Modifier.isPrivate(f.getModifiers()) ? 0 : 1;
        }
        Check.due("constants of the face", fields, 1);
        Check.due("NONE", LostCauses.NONE, -1);
        Constructor<?>[] made = LostCauses.class.getDeclaredConstructors();
        Check.due("constructors", made.length, 1);
        Check.due("final", Modifier.isFinal(LostCauses.class.getModifiers()), true);
        privateNames(LostCauses.class, names);
        for (Class<?> inner : LostCauses.class.getDeclaredClasses()) {
            Check.due(inner + " static", Modifier.isStatic(inner.getModifiers()), true);
            Check.due(inner + " public", Modifier.isPublic(inner.getModifiers()), false);
            privateNames(inner, names);
        }
    }

    private static void privateNames(Class<?> owner, Set<String> faceNames) {
        for (Method m : owner.getDeclaredMethods()) {
            if (Modifier.isPrivate(m.getModifiers()) && faceNames.contains(m.getName())) {
                Check.due("a private method named " + m.getName(), 1, 0);
            }
        }
    }

    private static String signature(Method m) {
        StringBuilder text = new StringBuilder(m.getReturnType() + " " + m.getName() + "(");
        for (Class<?> type : m.getParameterTypes()) {
            text.append(text.charAt(text.length() - 1) == '(' ? "" : ",").append(type);
        }
        return text.append(')').toString();
    }

    private static void newObject() {
        LostCauses x = new LostCauses();
        int[] counts = {0, 0, 0, 0, 1, 9, 0, -1};
        for (int i = 0; i < counts.length; i++) {
            Check.due("count(" + i + ")", x.count(i), counts[i]);
        }
        int[] nows = {0, 50, 0, 0, 0, -1, 0, -1};
        for (int i = 0; i < nows.length; i++) {
            Check.due("now(" + i + ")", x.now(i), nows[i]);
        }
        Check.due("fault()", x.fault(), 0);
        Check.due("booked(0)", x.booked(0), -1);
        Check.due("tried()", x.tried(), -1);
        Check.due("said(-1)", x.said(-1), -1);
        Check.due("undo()", x.undo(), -1);
    }
}
