import java.lang.reflect.Field;
import java.lang.reflect.Member;
import java.lang.reflect.Method;
import java.lang.reflect.Modifier;
import java.util.Set;
import java.util.TreeSet;

/** The public face is that of the document and nothing more; no static state. */
public final class FaceTest {
    private static final Set<String> METHODS = Set.of(
            "int octets(int, long)", "int cost(int, int, int)", "int price(int, int)", "int keep(int)",
            "int parse(int)", "int step(int, int)", "long sum()", "long again()", "boolean least()",
            "int told(int)", "long rounds(int)", "int longest(int)", "int distance(int, int)",
            "int cut(int)", "long split(int)", "int taken(int)", "int many(int)", "void clear()",
            "int trier(int)");

    public static void main(String[] args) throws Exception {
        Set<String> wrong = new TreeSet<>();
        Set<String> found = new TreeSet<>();
        Set<String> names = new TreeSet<>();
        for (Method m : BestParses.class.getDeclaredMethods()) {
            if (Modifier.isPublic(m.getModifiers())) {
                found.add(told(m));
                names.add(m.getName());
            } else {
                checkPrivate(m, wrong);
            }
        }
        for (Method m : BestParses.class.getDeclaredMethods()) {
            if (!Modifier.isPublic(m.getModifiers()) && names.contains(m.getName())) {
                wrong.add("a private method bears a public name: " + m.getName());
            }
        }
        if (!found.equals(new TreeSet<>(METHODS))) {
            wrong.add("public methods are " + found);
        }
        for (Field f : BestParses.class.getDeclaredFields()) {
            if (!f.getName().equals("NONE")) {
                checkPrivate(f, wrong);
            }
        }
        int modifiers = BestParses.class.getField("NONE").getModifiers();
        if (!Modifier.isStatic(modifiers) || !Modifier.isFinal(modifiers)) {
            wrong.add("NONE is no constant");
        }
        if (!Modifier.isFinal(BestParses.class.getModifiers())) {
            wrong.add("the class is not final");
        }
        if (BestParses.class.getDeclaredConstructors().length != 1) {
            wrong.add("there is more than one constructor");
        }
        Class<?>[] thrown = BestParses.class.getMethod("trier", int.class).getExceptionTypes();
        if (thrown.length != 1 || thrown[0] != ArrayIndexOutOfBoundsException.class) {
            wrong.add("trier() does not declare its exception");
        }
        checkStatic(BestParses.class, wrong);
        for (Class<?> inside : BestParses.class.getDeclaredClasses()) {
            int how = inside.getModifiers();
            if (!Modifier.isStatic(how) || Modifier.isPublic(how) || Modifier.isProtected(how)) {
                wrong.add("a class inside is not as it may be: " + inside.getName());
            }
            checkStatic(inside, wrong);
        }
        wrong.forEach(System.out::println);
        System.out.println(found.size() + " public methods, " + wrong.size() + " wrong");
        if (!wrong.isEmpty()) {
            System.exit(1);
        }
    }

    private static void checkPrivate(Member member, Set<String> wrong) {
        if (!Modifier.isPrivate(member.getModifiers()) && !member.isSynthetic()) {
            wrong.add("not private: " + member.getName());
        }
    }

    /** LANGUAGE.md, rule 5. */
    private static void checkStatic(Class<?> owner, Set<String> wrong) {
        for (Field f : owner.getDeclaredFields()) {
            if (Modifier.isStatic(f.getModifiers()) && !Modifier.isFinal(f.getModifiers())) {
                wrong.add("static and not final: " + f.getName());
            }
        }
    }

    private static String told(Method m) {
        StringBuilder all = new StringBuilder(m.getReturnType().getName());
        all.append(' ').append(m.getName()).append('(');
        for (int i = 0; i < m.getParameterCount(); i++) {
            all.append(i == 0 ? "" : ", ").append(m.getParameterTypes()[i].getName());
        }
        return all.append(')').toString();
    }
}
