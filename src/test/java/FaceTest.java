import java.lang.reflect.Constructor;
import java.lang.reflect.Field;
import java.lang.reflect.Method;
import java.lang.reflect.Modifier;
import java.util.Set;
import java.util.TreeSet;

/** The public face, and the rules of LANGUAGE.md that can be seen in the compiled class. */
public final class FaceTest {
    private static final Checks checks = new Checks();

    public static void main(String[] args) {
        constants();
        members();
        fields();
        privateNames();
        checks.end();
    }

    private static void constants() {
        checks.due("EQUAL", InsolvencyPool.EQUAL, 0);
        checks.due("LOSSES", InsolvencyPool.LOSSES, 1);
        checks.due("SHARES", InsolvencyPool.SHARES, 2);
        checks.due("HALVES", InsolvencyPool.HALVES, 3);
    }

    private static void members() {
        Class<?> face = InsolvencyPool.class;
        checks.due("modifiers of the class", Modifier.toString(face.getModifiers()), "public final");
        checks.due("superclass", face.getSuperclass(), Object.class);
        checks.due("number of interfaces", face.getInterfaces().length, 0);
        checks.due("number of nested classes", face.getDeclaredClasses().length, 0);
        Set<String> seen = new TreeSet<>();
        for (Constructor<?> constructor : face.getDeclaredConstructors()) {
            if (!Modifier.isPrivate(constructor.getModifiers())) {
                seen.add(constructor.toString());
            }
        }
        for (Method method : face.getDeclaredMethods()) {
            if (!Modifier.isPrivate(method.getModifiers())) {
                seen.add(method.toString().replace("InsolvencyPool.", ""));
            }
        }
        for (Field field : face.getDeclaredFields()) {
            if (!Modifier.isPrivate(field.getModifiers())) {
                seen.add(field.toString().replace("InsolvencyPool.", ""));
            }
        }
        checks.due("members that aren't private", seen, dueMembers());
    }

    private static Set<String> dueMembers() {
        Set<String> due = new TreeSet<>();
        due.add("public InsolvencyPool()");
        for (String name : new String[] {"EQUAL", "LOSSES", "SHARES", "HALVES"}) {
            due.add("public static final int " + name);
        }
        for (String name : new String[] {"creditors", "left", "next", "unpaid", "worst"}) {
            due.add("public int " + name + "()");
        }
        for (String name : new String[] {"remove", "estate", "claimOf", "share", "claims", "paid"}) {
            due.add("public int " + name + "(int)");
        }
        for (String name : new String[] {"add", "change", "move", "rule", "shareOf", "shareUnder", "leastEstate"}) {
            due.add("public int " + name + "(int,int)");
        }
        return due;
    }

    private static void fields() {
        Set<Class<?>> constantTypes = Set.of(int.class, long.class);
        for (Field field : InsolvencyPool.class.getDeclaredFields()) {
            Class<?> type = field.getType();
            Class<?> unit = type.isArray() ? type.getComponentType() : type;
            boolean number = unit.isPrimitive() && unit != float.class && unit != double.class;
            checks.due("field " + field.getName() + " holds whole numbers", number, true);
            if (Modifier.isStatic(field.getModifiers())) {
                boolean constant = Modifier.isFinal(field.getModifiers()) && constantTypes.contains(type);
                checks.due("static field " + field.getName() + " is a constant", constant, true);
            }
        }
    }

    private static void privateNames() {
        Set<String> publicNames = new TreeSet<>();
        for (Method method : InsolvencyPool.class.getMethods()) {
            publicNames.add(method.getName());
        }
        for (Method method : InsolvencyPool.class.getDeclaredMethods()) {
            boolean clash = Modifier.isPrivate(method.getModifiers()) && publicNames.contains(method.getName());
            checks.due("private " + method.getName() + " bears a public name", clash, false);
            checks.due(method.getName() + " takes at most 7", method.getParameterCount() <= 7, true);
        }
    }
}
