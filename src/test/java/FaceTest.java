import java.lang.reflect.Constructor;
import java.lang.reflect.Field;
import java.lang.reflect.Method;
import java.lang.reflect.Modifier;
import java.util.TreeSet;

/** The class has the document's face and nothing else that can be seen. */
public final class FaceTest {
    private static final String[] FACE = {
        "int feed(int,int,int,int,int)", "boolean end(int)", "int fault(int)", "int text(int)",
        "int rule(int)", "int spot(int,int)", "int steps(int,int)", "boolean law(int)",
        "boolean danger(int)", "int hours(int)", "int walk(int)", "int cry()", "int whisper()",
        "int heir()", "int begin(int,int,int)", "int give(int)", "int years(int,long)",
        "int status(int)", "int undo()", "int log(int,int)", "int lost(int)", "int left(int,int)",
        "int saved(int)", "int cryAt(int,int)", "int quiet()", "int call(int,int)",
        "int round(int,int)", "int cover()", "int seen(int,int,int,boolean)", "int fits(int)",
        "int ask(int)", "int game(int,int,int,int,int)", "int rests(int,int,int)",
        "int odds(int,int,int,int)", "int shares(int,int)", "int most(int)", "int image()",
        "int back()", "int count(int)"};

    public static void main(String[] args) {
        Due due = new Due();
        TreeSet<String> want = new TreeSet<>();
        TreeSet<String> names = new TreeSet<>();
        for (String method : FACE) {
            want.add(method);
            names.add(method.substring(method.indexOf(' ') + 1, method.indexOf('(')));
        }
        for (Method m : BelievedOnce.class.getDeclaredMethods()) {
            if (Modifier.isPrivate(m.getModifiers())) {
                due.is("a private method named " + m.getName(), names.contains(m.getName()), false);
            } else {
                due.is("a method " + told(m), want.remove(told(m)), true);
            }
        }
        due.is("missing: " + want, want.size(), 0);
        for (Class<?> inner : BelievedOnce.class.getDeclaredClasses()) {
            due.is(inner + " is private", Modifier.isPrivate(inner.getModifiers()), true);
            due.is(inner + " is static", Modifier.isStatic(inner.getModifiers()), true);
            for (Method m : inner.getDeclaredMethods()) {
                due.is(inner + ": a method named " + m.getName(), names.contains(m.getName()), false);
            }
        }
        due.is("final", Modifier.isFinal(BelievedOnce.class.getModifiers()), true);
        Constructor<?>[] made = BelievedOnce.class.getDeclaredConstructors();
        due.is("constructors", made.length, 1);
        due.is("its parameters", made[0].getParameterCount(), 0);
        int seen = 0;
        for (Field f : BelievedOnce.class.getDeclaredFields()) {
            seen += Modifier.isPrivate(f.getModifiers()) ? 0 : 1;
        }
        due.is("constants to be seen", seen, 2);
        due.is("NONE", BelievedOnce.NONE, -1);
        due.is("HIDDEN", BelievedOnce.HIDDEN, -1000000);
        due.close("FaceTest");
    }

    private static String told(Method m) {
        StringBuilder row = new StringBuilder(m.getReturnType().getName());
        row.append(' ').append(m.getName()).append('(');
        for (Class<?> type : m.getParameterTypes()) {
            row.append(row.charAt(row.length() - 1) == '(' ? "" : ",").append(type.getName());
        }
        return row.append(')').toString();
    }
}
