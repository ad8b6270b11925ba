import java.lang.reflect.Constructor;
import java.lang.reflect.Field;
import java.lang.reflect.Method;
import java.lang.reflect.Modifier;
import java.util.Set;
import java.util.TreeSet;

/** The face of the document, and those rules of LANGUAGE.md that can be seen in the classes. */
public final class LanguageTest {
    private static final Checks CHECKS = new Checks("LanguageTest");
    private static final Set<String> FACE = Set.of(
            "boolean put(int,long)", "void scrap()", "int add(int)", "int drop(int)", "int names()",
            "int letter(int,int)", "int provider(int)", "int file(int,int)", "long uses(int,boolean)",
            "long closure(int)", "int component(int)", "int layer(int)", "int packageOf(int)", "int jars(int)",
            "int jar(int,int)", "long exports(int)", "int problems(int)");

    public static void main(String[] args) {
        theFace();
        theClassesInside();
        eachClass(ModuleScanner.class);
        for (Class<?> inside : ModuleScanner.class.getDeclaredClasses()) {
            eachClass(inside);
        }
        CHECKS.end();
    }

    private static String signature(Method method) {
        StringBuilder text = new StringBuilder(method.getReturnType() + " " + method.getName() + "(");
        for (Class<?> type : method.getParameterTypes()) {
            text.append(text.charAt(text.length() - 1) == '(' ? "" : ",").append(type);
        }
        return text.append(")").toString();
    }

    private static void theFace() {
        int modifiers = ModuleScanner.class.getModifiers();
        CHECKS.holds("public and final", Modifier.isPublic(modifiers) && Modifier.isFinal(modifiers));
        CHECKS.holds("without a package", ModuleScanner.class.getPackageName().isEmpty());
        Set<String> open = new TreeSet<>();
        Set<String> openNames = new TreeSet<>();
        for (Method method : ModuleScanner.class.getDeclaredMethods()) {
            if (!Modifier.isPrivate(method.getModifiers())) {
                CHECKS.holds(method + " is public", Modifier.isPublic(method.getModifiers()));
                CHECKS.same(method + " throws", method.getExceptionTypes().length, 0);
                open.add(signature(method));
                openNames.add(method.getName());
            }
        }
        CHECKS.holds("the methods are " + open, open.equals(FACE));
        for (Method method : ModuleScanner.class.getDeclaredMethods()) {
            boolean hidden = Modifier.isPrivate(method.getModifiers());
            CHECKS.fails(method + " bears a public name", hidden && openNames.contains(method.getName()));
        }
        for (Field field : ModuleScanner.class.getDeclaredFields()) {
            boolean hidden = Modifier.isPrivate(field.getModifiers());
            CHECKS.holds(field + " is private", hidden || field.getName().equals("NONE"));
        }
        Constructor<?>[] constructors = ModuleScanner.class.getDeclaredConstructors();
        CHECKS.same("constructors", constructors.length, 1);
        CHECKS.holds("a public one", Modifier.isPublic(constructors[0].getModifiers()));
        CHECKS.same("its parameters", constructors[0].getParameterCount(), 0);
    }

    private static void theClassesInside() {
        Class<?>[] inside = ModuleScanner.class.getDeclaredClasses();
        CHECKS.holds("at most twelve classes", inside.length + 1 <= 12);
        for (Class<?> each : inside) {
            int modifiers = each.getModifiers();
            CHECKS.holds(each + " is static", Modifier.isStatic(modifiers));
            CHECKS.fails(each + " is public", Modifier.isPublic(modifiers) || Modifier.isProtected(modifiers));
            CHECKS.same(each + " has classes inside", each.getDeclaredClasses().length, 0);
        }
    }

    private static void eachClass(Class<?> each) {
        int fields = 0;
        for (Field field : each.getDeclaredFields()) {
            boolean fixed = Modifier.isStatic(field.getModifiers());
            fields += fixed ? 0 : 1;
            CHECKS.holds(field + " is final if it is static", !fixed || Modifier.isFinal(field.getModifiers()));
        }
        CHECKS.holds(each + " has at most twenty fields", fields <= 20);
        for (Method method : each.getDeclaredMethods()) {
            CHECKS.holds(method + " takes at most seven", method.getParameterCount() <= 7);
            CHECKS.fails(method + " is made by the compiler", method.isSynthetic());
        }
    }
}
