import java.lang.reflect.Constructor;
import java.lang.reflect.Field;
import java.lang.reflect.Method;
import java.lang.reflect.Modifier;
import java.util.ArrayList;
import java.util.Arrays;
import java.util.Collections;
import java.util.HashSet;
import java.util.List;
import java.util.Set;
import java.util.TreeSet;

/** The public face is the document's and no more, and what LANGUAGE.md asks of members holds. */
public final class SonsLotFace {
    private static final String NO_SUCH = " java.util.NoSuchElementException";
    private static final String ILLEGAL = " java.lang.IllegalArgumentException";

    /** Behind each one what it throws. */
    private static final String[] FACE = {
        "int feed(int, int, int, int, int)", "int island(int)" + ILLEGAL, "int fault()", "int count(int)" + NO_SUCH,
        "int house(int, int)" + NO_SUCH, "int plot(int, int)" + NO_SUCH, "int worth(int, int)" + NO_SUCH,
        "int harvest(int, int, int)" + NO_SUCH + ILLEGAL, "int lots(int)", "int turn(int)" + NO_SUCH,
        "int order(int, int)" + NO_SUCH, "boolean exchange(int, int)" + NO_SUCH, "int market(int, int)",
        "int years(int)", "int undo()", "int ring()", "long best(int)" + NO_SUCH, "int fairest(int)" + NO_SUCH,
        "int tribes()", "int middle()", "int then(int, int)" + NO_SUCH + ILLEGAL, "int starves(int)" + NO_SUCH,
        "int tithes(int)" + ILLEGAL, "int holdsOut()", "int lotsFor(int, int)" + NO_SUCH + ILLEGAL,
        "int change(int)" + ILLEGAL, "int envied(int)" + NO_SUCH, "int without(int, int)" + NO_SUCH + ILLEGAL,
        "int lastPlace(int)" + NO_SUCH, "int famine(int)" + ILLEGAL, "int bushels(int, int)" + NO_SUCH + ILLEGAL,
        "int free()", "int richest(int)" + ILLEGAL, "int see(int, int, int)" + NO_SUCH, "int brothers()",
        "int look(int, int)" + NO_SUCH, "void forget()", "int game(int, int, int, int)" + NO_SUCH + ILLEGAL,
        "int founders(int, int, int)" + NO_SUCH + ILLEGAL, "void image()", "boolean restore()"};

    private static int wrong = 0;

    public static void main(String[] args) {
        due("public and final", Modifier.isPublic(SonsLot.class.getModifiers())
            && Modifier.isFinal(SonsLot.class.getModifiers()));
        methods();
        fields();
        constructors();
        classes();
        System.out.println(wrong == 0 ? "the face is as due" : wrong + " of the face are not as due");
        if (wrong != 0) {
            System.exit(1);
        }
    }

    private static void due(String what, boolean holds) {
        if (!holds) {
            wrong++;
            System.out.println("not as due: " + what);
        }
    }

    private static void methods() {
        Set<String> open = new TreeSet<>();
        for (Method m : SonsLot.class.getDeclaredMethods()) {
            if (!Modifier.isPrivate(m.getModifiers()) && !m.isSynthetic()) {
                due(m.getName() + " is public", Modifier.isPublic(m.getModifiers()));
                List<String> types = new ArrayList<>();
                for (Class<?> type : m.getParameterTypes()) {
                    types.add(type.getName());
                }
                StringBuilder thrown = new StringBuilder();
                for (Class<?> type : m.getExceptionTypes()) {
                    thrown.append(' ').append(type.getName());
                }
                open.add(m.getReturnType().getName() + " " + m.getName() + "(" + String.join(", ", types) + ")" + thrown);
            }
        }
        due("methods: " + open, open.equals(new TreeSet<>(Arrays.asList(FACE))));
    }

    private static void fields() {
        for (Field f : SonsLot.class.getDeclaredFields()) {
            boolean isNone = f.getName().equals("NONE");
            due("field " + f.getName(), isNone ? Modifier.isPublic(f.getModifiers()) : Modifier.isPrivate(f.getModifiers()));
        }
    }

    private static void constructors() {
        Constructor<?>[] all = SonsLot.class.getDeclaredConstructors();
        due("one constructor", all.length == 1 && all[0].getParameterCount() == 0
            && Modifier.isPublic(all[0].getModifiers()));
    }

    private static void classes() {
        Set<String> names = new HashSet<>();
        for (String method : FACE) {
            names.add(method.substring(method.indexOf(' ') + 1, method.indexOf('(')));
        }
        List<Class<?>> all = new ArrayList<>(Arrays.asList(SonsLot.class.getDeclaredClasses()));
        for (Class<?> c : all) {
            due(c.getName() + " is static and not public", Modifier.isStatic(c.getModifiers())
                && !Modifier.isPublic(c.getModifiers()) && !Modifier.isProtected(c.getModifiers()));
            for (Method m : c.getDeclaredMethods()) {
                due(c.getName() + "." + m.getName() + " bears a name of the face", !names.contains(m.getName()));
            }
        }
        Collections.addAll(all, SonsLot.class);
        due("some twelve classes", all.size() <= 12);
        for (Class<?> c : all) {
            int own = 0;
            for (Field f : c.getDeclaredFields()) {
                boolean isStatic = Modifier.isStatic(f.getModifiers());
                due(c.getName() + "." + f.getName() + " is final", !isStatic || Modifier.isFinal(f.getModifiers()));
                own += isStatic ? 0 : 1;
            }
            due(c.getName() + " has some twenty fields", own <= 20);
            for (Method m : c.getDeclaredMethods()) {
                due(m.getName() + " takes seven at most", m.getParameterCount() <= 7);
            }
        }
    }
}
