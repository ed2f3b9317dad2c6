import java.lang.reflect.Constructor;
import java.lang.reflect.Field;
import java.lang.reflect.Method;
import java.lang.reflect.Modifier;
import java.util.Arrays;
import java.util.HashSet;
import java.util.Set;
import java.util.TreeSet;
import java.util.stream.Collectors;

/** The class has the document's face, and shows nothing else. */
public final class FaceTest {
    private static final String[] FACE = {
        "int begin(int) IllegalArgumentException",
        "int addJob(int,int) IllegalArgumentException IllegalStateException",
        "int addOperation(int,int,int) IllegalArgumentException IllegalStateException IndexOutOfBoundsException",
        "int breakDown(int,int,int) IllegalArgumentException IllegalStateException IndexOutOfBoundsException",
        "int repaired() IllegalStateException",
        "int plan(int) IllegalArgumentException",
        "int shift() IllegalStateException",
        "int replan(int,int) IllegalArgumentException IllegalStateException",
        "int accept() IllegalStateException",
        "int bargain(int,int) IllegalArgumentException IllegalStateException IndexOutOfBoundsException",
        "int overtime(int,int) IllegalStateException IndexOutOfBoundsException",
        "int job(int,int) IllegalArgumentException IndexOutOfBoundsException",
        "int operation(int,int,int) IllegalArgumentException IndexOutOfBoundsException",
        "int breakdown(int,int) IllegalArgumentException IndexOutOfBoundsException",
        "int value(int) IllegalArgumentException",
        "int meeting()",
        "int onMachine(int,int) IndexOutOfBoundsException",
        "int latenessBy(int) IllegalArgumentException",
        "int bestRule()",
        "int latenessShifted()",
        "int bestReplan(int) IllegalArgumentException",
        "int bestOvertime(int) IllegalArgumentException",
        "double usage()",
        "int append(int) IllegalArgumentException IllegalStateException",
        "int clearText()",
        "int carryOut()",
        "int undo() IllegalStateException",
        "long digest()",
    };

    public static void main(String[] args) {
        Class<RepairShop> shop = RepairShop.class;
        Checks.due("the class", Modifier.PUBLIC | Modifier.FINAL, shop.getModifiers());
        Checks.due("what it extends", Object.class, shop.getSuperclass());
        Checks.due("what it implements", 0, shop.getInterfaces().length);
        methods(shop);
        constructors(shop);
        fields(shop);
        for (Class<?> inside : shop.getDeclaredClasses()) {
            int modifiers = inside.getModifiers();
            Checks.holds(inside + " is static", Modifier.isStatic(modifiers));
            Checks.holds(inside + " is not shown", !Modifier.isPublic(modifiers) && !Modifier.isProtected(modifiers));
        }
        Checks.close("FaceTest");
    }

    private static void methods(Class<RepairShop> shop) {
        Set<String> shown = new TreeSet<>();
        Set<String> names = new HashSet<>();
        for (Method method : shop.getDeclaredMethods()) {
            if (Modifier.isPublic(method.getModifiers())) {
                shown.add(told(method));
                names.add(method.getName());
                Checks.due("modifiers of " + method, Modifier.PUBLIC, method.getModifiers());
            }
        }
        Checks.due("the public methods", new TreeSet<>(Arrays.asList(FACE)), shown);
        for (Method method : shop.getDeclaredMethods()) {
            if (!Modifier.isPublic(method.getModifiers())) {
                Checks.holds(method + " is private", Modifier.isPrivate(method.getModifiers()));
                Checks.holds(method + " has a name of its own", !names.contains(method.getName()));
            }
        }
        for (Class<?> inside : shop.getDeclaredClasses()) {
            for (Method method : inside.getDeclaredMethods()) {
                Checks.holds(method + " has a name of its own", !names.contains(method.getName()));
            }
        }
    }

    private static String told(Method method) {
        String types = Arrays.stream(method.getParameterTypes()).map(Class::getSimpleName)
                .collect(Collectors.joining(","));
        String exceptions = Arrays.stream(method.getExceptionTypes()).map(type -> " " + type.getSimpleName())
                .sorted().collect(Collectors.joining());
        return method.getReturnType() + " " + method.getName() + "(" + types + ")" + exceptions;
    }

    private static void constructors(Class<RepairShop> shop) {
        Constructor<?>[] constructors = shop.getDeclaredConstructors();
        Checks.due("constructors", 1, constructors.length);
        Checks.due("its modifiers", Modifier.PUBLIC, constructors[0].getModifiers());
        Checks.due("its parameters", 0, constructors[0].getParameterCount());
        Checks.due("its exceptions", 0, constructors[0].getExceptionTypes().length);
    }

    private static void fields(Class<RepairShop> shop) {
        for (Field field : shop.getDeclaredFields()) {
            int modifiers = field.getModifiers();
            if (field.getName().equals("NONE")) {
                Checks.due("NONE", Modifier.PUBLIC | Modifier.STATIC | Modifier.FINAL, modifiers);
                Checks.due("the type of NONE", int.class, field.getType());
            } else {
                Checks.holds(field + " is private", Modifier.isPrivate(modifiers));
                Checks.holds(field + " is no static state", !Modifier.isStatic(modifiers)
                        || Modifier.isFinal(modifiers));
            }
        }
    }
}
