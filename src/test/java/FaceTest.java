import java.lang.reflect.Constructor;
import java.lang.reflect.Field;
import java.lang.reflect.Member;
import java.lang.reflect.Method;
import java.lang.reflect.Modifier;
import java.util.ArrayList;
import java.util.HashSet;
import java.util.List;
import java.util.Set;
import java.util.TreeSet;

/** The document's face and rule 1 of LANGUAGE.md: all of the face, and nothing beside it. */
public final class FaceTest {
    private static final Checks checks = new Checks();
    private static final String NO_SUCH = "java.util.NoSuchElementException";
    private static final String STATE = "java.lang.IllegalStateException";

    public static void main(String[] args) {
        Set<String> face = new TreeSet<>();
        face.add("public TypeBench()");
        face.add("public int TypeBench.free() throws " + STATE);
        for (String name : new String[] {"sum", "pair"}) {
            face.add("public int TypeBench." + name + "(int,int) throws " + NO_SUCH + "," + STATE);
        }
        for (String name : new String[] {"join", "alike", "same", "renamed"}) {
            face.add("public boolean TypeBench." + name + "(int,int) throws " + NO_SUCH);
        }
        for (String name : new String[] {"kind", "size", "values", "frees"}) {
            face.add("public int TypeBench." + name + "(int) throws " + NO_SUCH);
        }
        face.add("public int TypeBench.part(int,boolean) throws " + NO_SUCH);
        face.add("public int TypeBench.clear()");
        face.add("public int TypeBench.count(int)");

        Set<String> open = new TreeSet<>();
        members(TypeBench.class).stream()
                .filter(m -> !Modifier.isPrivate(m.getModifiers()) && !m.isSynthetic())
                .forEach(m -> open.add(m.toString()));
        checks.due("members that are not private", face, open);
        checks.due("modifiers", Modifier.PUBLIC | Modifier.FINAL, TypeBench.class.getModifiers());
        staticFieldsAreFinal(TypeBench.class);
        noPrivateNameIsAPublicOne();
        for (Class<?> inside : TypeBench.class.getDeclaredClasses()) {
            checks.due(inside + " is static", true, Modifier.isStatic(inside.getModifiers()));
            checks.due(inside + " is public", false, Modifier.isPublic(inside.getModifiers()));
            staticFieldsAreFinal(inside);
        }
        checks.finish();
    }

    private static List<Member> members(Class<?> type) {
        List<Member> all = new ArrayList<>();
        for (Constructor<?> c : type.getDeclaredConstructors()) {
            all.add(c);
        }
        for (Method m : type.getDeclaredMethods()) {
            all.add(m);
        }
        for (Field f : type.getDeclaredFields()) {
            all.add(f);
        }
        return all;
    }

    private static void staticFieldsAreFinal(Class<?> type) {
        for (Field f : type.getDeclaredFields()) {
            int modifiers = f.getModifiers();
            checks.due(f + " is static and not final", false,
                    Modifier.isStatic(modifiers) && !Modifier.isFinal(modifiers));
        }
    }

    private static void noPrivateNameIsAPublicOne() {
        Set<String> open = new HashSet<>();
        Set<String> hidden = new HashSet<>();
        for (Method m : TypeBench.class.getDeclaredMethods()) {
            (Modifier.isPublic(m.getModifiers()) ? open : hidden).add(m.getName());
        }
        for (Class<?> inside : TypeBench.class.getDeclaredClasses()) {
            for (Method m : inside.getDeclaredMethods()) {
                hidden.add(m.getName());
            }
        }
        hidden.retainAll(open);
        checks.due("private methods with a public one's name", Set.of(), hidden);
    }
}
