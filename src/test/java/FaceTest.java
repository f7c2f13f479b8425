import java.lang.reflect.Constructor;
import java.lang.reflect.Field;
import java.lang.reflect.Member;
import java.lang.reflect.Method;
import java.lang.reflect.Modifier;
import java.util.ArrayList;
import java.util.Arrays;
import java.util.List;
import java.util.Set;
import java.util.TreeSet;

/** "The public face" and "The constants", and what LANGUAGE.md says of them, as the class itself tells it. */
public final class FaceTest {
    private static final Check check = new Check("FaceTest");

    private static final String[] FACE = {
        "public static final int GuardForge.NONE",
        "public GuardForge()",
        "public boolean GuardForge.giveBytes(long,int)",
        "public boolean GuardForge.cutBytes(int)",
        "public boolean GuardForge.pokeByte(int,int)",
        "public void GuardForge.turnBytes()",
        "public int GuardForge.loadPolicy()",
        "public int GuardForge.loadProgram()",
        "public int GuardForge.saveProgram(boolean)",
        "public int GuardForge.forgeIt()",
        "public int GuardForge.certifyIt(boolean)",
        "public int GuardForge.addAnswer(int)",
        "public void GuardForge.dropAnswers()",
        "public int GuardForge.runIt(boolean,int)",
        "public int GuardForge.endOf(int)",
        "public int GuardForge.traceAt(int,int)",
        "public int GuardForge.counterOf(int,boolean)",
        "public void GuardForge.resetWatch()",
        "public int GuardForge.watchCall(int,int,int,int)",
        "public int GuardForge.wayOf(int,int)",
        "public int GuardForge.letterOf(int,int)",
        "public int GuardForge.codeOf(boolean,int,int,int)",
        "public long GuardForge.mayOf(boolean,int,int)",
        "public int GuardForge.functionOf(boolean,int,int)",
        "public int GuardForge.byteOf(int,boolean)",
        "public int GuardForge.lookAt(int)",
    };

    public static void main(String[] args) {
        face();
        constants();
        classesInside();
        namesOfPrivateMethods();
        staticFields();
        sizes();
        check.end();
    }

    private static List<Member> members(Class<?> of) {
        List<Member> all = new ArrayList<>();
        for (Field field : of.getDeclaredFields()) {
            all.add(field);
        }
        for (Constructor<?> constructor : of.getDeclaredConstructors()) {
            all.add(constructor);
        }
        for (Method method : of.getDeclaredMethods()) {
            all.add(method);
        }
        return all;
    }

    private static List<Class<?>> allClasses() {
        List<Class<?>> all = new ArrayList<>(Arrays.asList(GuardForge.class.getDeclaredClasses()));
        all.add(GuardForge.class);
        return all;
    }

    /** "public final class GuardForge": what there is of it that is not private is what the document lists, and no more. */
    private static void face() {
        int modifiers = GuardForge.class.getModifiers();
        check.same("public", Modifier.isPublic(modifiers), true);
        check.same("final", Modifier.isFinal(modifiers), true);
        check.same("without a package", GuardForge.class.getPackageName().isEmpty(), true);
        check.same("extends nothing", GuardForge.class.getSuperclass() == Object.class, true);
        check.same("implements nothing", GuardForge.class.getInterfaces().length, 0);
        Set<String> due = new TreeSet<>(Arrays.asList(FACE));
        Set<String> there = new TreeSet<>();
        for (Member member : members(GuardForge.class)) {
            if (!Modifier.isPrivate(member.getModifiers())) {
                there.add(member.toString());
                check.same("in the document: " + member, due.contains(member.toString()), true);
            }
        }
        for (String one : due) {
            check.same("in the class: " + one, there.contains(one), true);
        }
    }

    /** "NONE = -1": There is none. */
    private static void constants() {
        check.same("NONE", GuardForge.NONE, -1);
        check.same("what there is none of", new GuardForge().endOf(0), GuardForge.NONE);
    }

    /** Rule 1: "the classes inside it, which are private or package-visible and static" */
    private static void classesInside() {
        for (Class<?> inside : GuardForge.class.getDeclaredClasses()) {
            int modifiers = inside.getModifiers();
            check.same(inside + " is static", Modifier.isStatic(modifiers), true);
            check.same(inside + " is seen from outside", Modifier.isPublic(modifiers) || Modifier.isProtected(modifiers), false);
            check.same(inside + " has classes inside", inside.getDeclaredClasses().length, 0);
        }
    }

    /** Rule 1: "No private method bears the name of a public one." */
    private static void namesOfPrivateMethods() {
        Set<String> names = new TreeSet<>();
        for (Method method : GuardForge.class.getMethods()) {
            names.add(method.getName());
        }
        for (Class<?> of : allClasses()) {
            for (Method method : of.getDeclaredMethods()) {
                if (of != GuardForge.class || Modifier.isPrivate(method.getModifiers())) {
                    check.same("a public one's name: " + method, names.contains(method.getName()), false);
                }
            }
        }
    }

    /** Rule 5: "Static fields are final: constants of int, long, boolean, char or String .. and arrays of int, long, char or byte" */
    private static void staticFields() {
        List<Class<?>> types = Arrays.asList(int.class, long.class, boolean.class, char.class, String.class, int[].class, long[].class,
                char[].class, byte[].class);
        for (Class<?> of : allClasses()) {
            for (Field field : of.getDeclaredFields()) {
                if (Modifier.isStatic(field.getModifiers())) {
                    check.same("final: " + field, Modifier.isFinal(field.getModifiers()), true);
                    check.same("such a type: " + field, types.contains(field.getType()), true);
                }
            }
        }
    }

    /** Rule 11: "at most seven parameters", "at most some twelve classes, and a class some twenty fields beside its constants" */
    private static void sizes() {
        check.same("classes", allClasses().size() <= 12, true);
        for (Class<?> of : allClasses()) {
            int fields = 0;
            for (Field field : of.getDeclaredFields()) {
                fields += Modifier.isStatic(field.getModifiers()) ? 0 : 1;
            }
            check.same("fields of " + of, fields <= 20, true);
            for (Method method : of.getDeclaredMethods()) {
                check.same("parameters of " + method, method.getParameterCount() <= 7, true);
            }
        }
    }
}
