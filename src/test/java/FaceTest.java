import java.lang.reflect.Constructor;
import java.lang.reflect.Field;
import java.lang.reflect.Method;
import java.lang.reflect.Modifier;
import java.util.Arrays;
import java.util.Set;
import java.util.TreeSet;

/** The class has the document's face, and no other member that can be seen from outside. */
public final class FaceTest {
    private static final String[] FACE = {
        "public SearchCluster()",
        "public static final int NONE",
        "public int make(int, int, int) throws IllegalArgumentException",
        "public int draft(int, long) throws IllegalArgumentException",
        "public int put(int, int) throws IndexOutOfBoundsException, IllegalArgumentException, IllegalStateException",
        "public int drop(int, int) throws IndexOutOfBoundsException, IllegalStateException",
        "public int refresh(int, int) throws IndexOutOfBoundsException, IllegalStateException",
        "public int find(int, int) throws IndexOutOfBoundsException, IllegalArgumentException, IllegalStateException",
        "public int request(int, int) throws IndexOutOfBoundsException",
        "public int hit(int, int, int) throws IndexOutOfBoundsException",
        "public int link(int, int) throws IndexOutOfBoundsException",
        "public int message(int, int, int, int) throws IndexOutOfBoundsException",
        "public int deliver(int, int) throws IndexOutOfBoundsException",
        "public int lose(int, int) throws IndexOutOfBoundsException",
        "public int tick()",
        "public int run(int) throws IllegalArgumentException",
        "public boolean up(int) throws IndexOutOfBoundsException",
        "public int down(int) throws IndexOutOfBoundsException",
        "public boolean start(int) throws IndexOutOfBoundsException, IllegalStateException",
        "public void fail(int, int, int) throws IndexOutOfBoundsException, IllegalArgumentException",
        "public int copy(int, int, int) throws IndexOutOfBoundsException",
        "public int other(int, int, int, int) throws IndexOutOfBoundsException",
        "public int view(int, int, int) throws IndexOutOfBoundsException",
        "public int document(int, int, int) throws IndexOutOfBoundsException",
        "public int act(int, int, int) throws IndexOutOfBoundsException",
        "public int disk(int, int, int, int) throws IndexOutOfBoundsException",
        "public int segment(int, int, int, int) throws IndexOutOfBoundsException",
        "public int octet(int, int, int, int) throws IndexOutOfBoundsException",
        "public int told(int) throws IndexOutOfBoundsException",
    };

    public static void main(String[] args) {
        Check check = new Check();
        Class<?> face = SearchCluster.class;
        Set<String> seen = new TreeSet<>();
        for (Constructor<?> constructor : face.getDeclaredConstructors()) {
            if (!Modifier.isPrivate(constructor.getModifiers())) {
                seen.add(plain(constructor.toString()));
            }
        }
        for (Method method : face.getDeclaredMethods()) {
            if (!Modifier.isPrivate(method.getModifiers()) && !method.isSynthetic()) {
                seen.add(plain(method.toString()));
            }
        }
        for (Field field : face.getDeclaredFields()) {
            if (!Modifier.isPrivate(field.getModifiers()) && !field.isSynthetic()) {
                seen.add(plain(field.toString()));
            }
        }
        for (String due : FACE) {
            check.due("the face has " + due, seen.remove(due) ? 1 : 0, 1);
        }
        check.due("what else is seen: " + seen, seen.size(), 0);
        check.due("public and final", face.getModifiers(), Modifier.PUBLIC | Modifier.FINAL);
        for (Class<?> inside : face.getDeclaredClasses()) {
            check.due("static: " + inside, Modifier.isStatic(inside.getModifiers()) ? 1 : 0, 1);
            check.due("not public: " + inside, Modifier.isPublic(inside.getModifiers()) ? 1 : 0, 0);
            namesApart(check, inside);
            statesNothing(check, inside);
        }
        statesNothing(check, face);
        check.end("FaceTest");
    }

    /** No private method bears the name of a public one. */
    private static void namesApart(Check check, Class<?> inside) {
        for (Method method : inside.getDeclaredMethods()) {
            boolean same = Arrays.stream(SearchCluster.class.getDeclaredMethods())
                    .anyMatch(m -> Modifier.isPublic(m.getModifiers()) && m.getName().equals(method.getName()));
            check.due("the name of " + method, same ? 1 : 0, 0);
        }
    }

    private static void statesNothing(Check check, Class<?> any) {
        for (Field field : any.getDeclaredFields()) {
            int modifiers = field.getModifiers();
            check.due("static and not final: " + field,
                    Modifier.isStatic(modifiers) && !Modifier.isFinal(modifiers) ? 1 : 0, 0);
        }
    }

    private static String plain(String member) {
        return member.replace("java.lang.", "").replace("SearchCluster.", "").replace(",", ", ");
    }
}
