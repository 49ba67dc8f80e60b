import java.lang.reflect.Constructor;
import java.lang.reflect.Field;
import java.lang.reflect.Method;
import java.lang.reflect.Modifier;
import java.util.Arrays;
import java.util.TreeSet;

/** The public face is the document's and no more; promise 1: a new object is wind and nothing else. */
public final class FaceTest {
    private static final String[] METHODS = {
        "int state(int)", "int person(int,int,int)", "boolean set(int,int,int)", "boolean act(int,int,int)",
        "int ask(int)", "int minutes(int)", "int feed(int,int,int,int,int)", "boolean end(int)", "int text(int)",
        "int fault(int)", "int of(int,int)", "int book(int,int)", "int goes(int,int)", "int keeps(int)",
        "int earliest(int)", "int fits(int,int)", "int answer(int,boolean)", "int could(int)", "int watch(int,int)",
        "int guard(int,int)", "int step(int,int,int)", "int down(int,int,int)", "boolean spell(int,int,int)",
        "int over(int,int)", "int speaker(int,int)", "int council(int)", "boolean rule(int,int,int)",
        "int thing(int,int)", "int price(int)", "int prices(int,int)", "int bell(int,int)", "boolean worth(int,int)",
        "int worths()", "int game(int)", "boolean undo()", "boolean image(boolean)", "int look(int)"};

    private FaceTest() {
    }

    public static void main(String[] args) {
        face();
        newObject();
        Check.finish();
    }

    private static void face() {
        Class<?> c = LastWordHill.class;
        Check.due("public final", Modifier.isPublic(c.getModifiers()) && Modifier.isFinal(c.getModifiers()), true);
        TreeSet<String> found = new TreeSet<>();
        for (Method m : c.getDeclaredMethods()) {
            if (!Modifier.isPrivate(m.getModifiers())) {
                StringBuilder s = new StringBuilder(m.getReturnType() + " " + m.getName() + "(");
                for (Class<?> t : m.getParameterTypes()) {
                    s.append(s.charAt(s.length() - 1) == '(' ? "" : ",").append(t);
                }
                found.add(s + ")");
            }
        }
        TreeSet<String> wanted = new TreeSet<>(Arrays.asList(METHODS));
        Check.due("methods " + found, found.equals(wanted), true);
        int fields = 0;
        for (Field f : c.getDeclaredFields()) {
            fields += Modifier.isPrivate(f.getModifiers()) ? 0 : 1;
        }
        Check.due("one field to be seen", fields, 1);
        Check.due("NONE", LastWordHill.NONE, -1);
        Constructor<?>[] made = c.getDeclaredConstructors();
        Check.due("one constructor", made.length == 1 && Modifier.isPublic(made[0].getModifiers()), true);
    }

    private static void newObject() {
        LastWordHill x = new LastWordHill();
        int[] want = {0, -1, -1, 0, 0, 40, 0, 0, 0, 0, 0, 0, 0, 0, 0};
        for (int what = 0; what < want.length; what++) {
            Check.due("look(" + what + ")", x.look(what), want[what]);
        }
        Check.due("look(-1)", x.look(-1), -2);
        Check.due("look(15)", x.look(15), -2);
        Check.due("fault(0)", x.fault(0), 0);
        Check.due("fault(1)", x.fault(1), -1);
        Check.due("undo()", x.undo(), false);
        Check.due("image(false)", x.image(false), false);
        Check.due("could(0)", x.could(0), (1 << 21) - 1);
        Check.due("guard(0, -1)", x.guard(0, -1), -1);
        Check.due("council(0)", x.council(0), 0);
        Check.due("thing(999, 0)", x.thing(999, 0), 1);
        Check.due("prices(1, 0)", x.prices(1, 0), 0);
        Check.due("worths()", x.worths(), -1);
    }
}
