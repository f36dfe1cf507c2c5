import java.lang.reflect.Constructor;
import java.lang.reflect.Field;
import java.lang.reflect.Method;
import java.lang.reflect.Modifier;
import java.util.ArrayList;
import java.util.Arrays;
import java.util.Collections;
import java.util.HashSet;
import java.util.List;
import java.util.Set;
import java.util.TreeSet;

/** The public face is the document's and no more, and what LANGUAGE.md asks of members holds. */
public final class SonsLotFace {
    private static final String[] FACE = {
        "int feed(int, int, int, int, int)", "int island(int)", "int fault()", "int count(int)", "int house(int, int)",
        "int plot(int, int)", "int worth(int, int)", "int harvest(int, int, int)", "int lots(int)", "int turn(int)",
        "int order(int, int)", "boolean exchange(int, int)", "int market(int, int)", "int years(int)", "int undo()",
        "int ring()", "long best(int)", "int fairest(int)", "int tribes()", "int middle()", "int then(int, int)",
        "int starves(int)", "int tithes(int)", "int holdsOut()", "int lotsFor(int, int)", "int change(int)",
        "int envied(int)", "int without(int, int)", "int lastPlace(int)", "int famine(int)", "int bushels(int, int)",
        "int free()", "int richest(int)", "int see(int, int, int)", "int brothers()", "int look(int, int)",
        "void forget()", "int game(int, int, int, int)", "int founders(int, int, int)", "void image()",
        "boolean restore()"};

    private static int wrong = 0;

    public static void main(String[] args) {
        due("public and final", Modifier.isPublic(SonsLot.class.getModifiers())
            && Modifier.isFinal(SonsLot.class.getModifiers()));
        methods();
        fields();
        constructors();
        classes();
        System.out.println(wrong == 0 ? "the face is as due" : wrong + " of the face are not as due");
        if (wrong != 0) {
            System.exit(1);
        }
    }

    private static void due(String what, boolean holds) {
        if (!holds) {
            wrong++;
            System.out.println("not as due: " + what);
        }
    }

    private static void methods() {
        Set<String> open = new TreeSet<>();
        for (Method m : SonsLot.class.getDeclaredMethods()) {
            if (!Modifier.isPrivate(m.getModifiers()) && !m.isSynthetic()) {
                due(m.getName() + " is public", Modifier.isPublic(m.getModifiers()));
                List<String> types = new ArrayList<>();
                for (Class<?> type : m.getParameterTypes()) {
                    types.add(type.getName());
                }
                open.add(m.getReturnType().getName() + " " + m.getName() + "(" + String.join(", ", types) + ")");
            }
        }
        due("methods: " + open, open.equals(new TreeSet<>(Arrays.asList(FACE))));
    }

    private static void fields() {
        for (Field f : SonsLot.class.getDeclaredFields()) {
            boolean isNone = f.getName().equals("NONE");
            due("field " + f.getName(), isNone ? Modifier.isPublic(f.getModifiers()) : Modifier.isPrivate(f.getModifiers()));
        }
    }

    private static void constructors() {
        Constructor<?>[] all = SonsLot.class.getDeclaredConstructors();
        due("one constructor", all.length == 1 && all[0].getParameterCount() == 0
            && Modifier.isPublic(all[0].getModifiers()));
    }

    private static void classes() {
        Set<String> names = new HashSet<>();
        for (String method : FACE) {
            names.add(method.substring(method.indexOf(' ') + 1, method.indexOf('(')));
        }
        List<Class<?>> all = new ArrayList<>(Arrays.asList(SonsLot.class.getDeclaredClasses()));
        for (Class<?> c : all) {
            due(c.getName() + " is static and not public", Modifier.isStatic(c.getModifiers())
                && !Modifier.isPublic(c.getModifiers()) && !Modifier.isProtected(c.getModifiers()));
            for (Method m : c.getDeclaredMethods()) {
                due(c.getName() + "." + m.getName() + " bears a name of the face", !names.contains(m.getName()));
            }
        }
        Collections.addAll(all, SonsLot.class);
        due("some twelve classes", all.size() <= 12);
        for (Class<?> c : all) {
            int own = 0;
            for (Field f : c.getDeclaredFields()) {
                boolean isStatic = Modifier.isStatic(f.getModifiers());
                due(c.getName() + "." + f.getName() + " is final", !isStatic || Modifier.isFinal(f.getModifiers()));
                own += isStatic ? 0 : 1;
            }
            due(c.getName() + " has some twenty fields", own <= 20);
            for (Method m : c.getDeclaredMethods()) {
                due(m.getName() + " takes seven at most", m.getParameterCount() <= 7);
            }
        }
    }
}
