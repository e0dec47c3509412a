import java.lang.reflect.Constructor;
import java.lang.reflect.Field;
import java.lang.reflect.Method;
import java.lang.reflect.Modifier;
import java.util.Arrays;
import java.util.TreeSet;

/** The public face of the document, and no other member that can be seen from outside. */
public final class FaceTest {
    private static final Due due = new Due("FaceTest");
    private static final String[] CALLS = {"line(int)int", "tunnel(int,boolean)int", "ride(int,int,int)int",
        "seat(int,int)int", "purse(int,int)int", "fine(int)int", "say(int)int", "wipe()int", "fault()int",
        "judge(int)int", "done()int", "behind(int)int", "holds(int)int", "hears(int)int", "forecast(int,int)int",
        "rests(int)int", "talks(int,int)int", "buy(int,int)int", "seats(int,int,int)int", "word(int,int)int",
        "heard(int,int,int)int", "richest(int)int", "seen(int,int)int", "forget()int", "hum()int", "watch(int)int",
        "auction(int,int,int)int", "coughs(int,int,int)long", "year(int,int,int)int", "image(int)int",
        "restore(int)int", "told(int)int"};

    public static void main(String[] args) {
        constants();
        due.truth("the class is public and final",
            SilenceMinute.class.getModifiers() == (Modifier.PUBLIC | Modifier.FINAL));
        Constructor<?>[] made = SilenceMinute.class.getDeclaredConstructors();
        due.truth("one public constructor", made.length == 1 && Modifier.isPublic(made[0].getModifiers())
            && made[0].getParameterCount() == 0);
        methods();
        fields();
        for (Class<?> inside : SilenceMinute.class.getDeclaredClasses()) {
            int how = inside.getModifiers();
            due.truth(inside + " is static", Modifier.isStatic(how));
            due.truth(inside + " is private or package-visible", !Modifier.isPublic(how) && !Modifier.isProtected(how));
        }
        due.end();
    }

    private static void constants() {
        due.same("NONE", SilenceMinute.NONE, -6);
        due.same("UNKNOWN", SilenceMinute.UNKNOWN, -1);
        due.same("OUTSIDE", SilenceMinute.OUTSIDE, -2);
        due.same("STATE", SilenceMinute.STATE, -3);
        due.same("FULL", SilenceMinute.FULL, -4);
        due.same("NO", SilenceMinute.NO, -5);
        due.same("LOST", SilenceMinute.LOST, -1000000000000000000L);
    }

    private static void methods() {
        TreeSet<String> seen = new TreeSet<>();
        TreeSet<String> names = new TreeSet<>();
        for (Method m : SilenceMinute.class.getDeclaredMethods()) {
            if (Modifier.isPublic(m.getModifiers())) {
                String parts = Arrays.toString(m.getParameterTypes()).replaceAll("[\\[\\] ]", "");
                seen.add(m.getName() + "(" + parts + ")" + m.getReturnType());
                due.truth(m + " belongs to an object", m.getModifiers() == Modifier.PUBLIC);
                names.add(m.getName());
            }
        }
        due.truth("the public methods: " + seen, seen.equals(new TreeSet<>(Arrays.asList(CALLS))));
        for (Method m : SilenceMinute.class.getDeclaredMethods()) {
            boolean hidden = Modifier.isPrivate(m.getModifiers());
            due.truth(m + " is public or private", hidden || Modifier.isPublic(m.getModifiers()));
            due.truth(m + " has a name of its own", !hidden || !names.contains(m.getName()));
        }
    }

    private static void fields() {
        TreeSet<String> seen = new TreeSet<>();
        for (Field f : SilenceMinute.class.getDeclaredFields()) {
            if (!Modifier.isPrivate(f.getModifiers())) {
                seen.add(f.getName());
                due.truth(f + " is a public constant",
                    f.getModifiers() == (Modifier.PUBLIC | Modifier.STATIC | Modifier.FINAL));
                due.truth(f + " has its type", f.getType() == (f.getName().equals("LOST") ? long.class : int.class));
            }
        }
        due.truth("the public constants: " + seen, seen.equals(new TreeSet<>(
            Arrays.asList("NONE", "UNKNOWN", "OUTSIDE", "STATE", "FULL", "NO", "LOST"))));
    }
}
