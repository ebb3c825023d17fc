import java.lang.reflect.Constructor;
import java.lang.reflect.Field;
import java.lang.reflect.Method;
import java.lang.reflect.Modifier;
import java.util.Set;
import java.util.TreeSet;

/** The class shows what the document's public face lists, and nothing else. */
public final class FaceTest {
    public static void main(String[] args) {
        Set<String> want = new TreeSet<>(Set.of(
            "public static final int PersistentGraph.BAD = -1",
            "public static final int PersistentGraph.FULL = -2",
            "public static final int PersistentGraph.NONE = -3",
            "public PersistentGraph()",
            "public int PersistentGraph.make(int,int)",
            "public int PersistentGraph.getRoot(int)",
            "public int PersistentGraph.setRoot(int)",
            "public int PersistentGraph.follow(int,int,int)",
            "public int PersistentGraph.link(int,int,int)",
            "public int PersistentGraph.drop(int)",
            "public int PersistentGraph.value(int)",
            "public int PersistentGraph.setValue(int,int)",
            "public boolean PersistentGraph.same(int,int)",
            "public int PersistentGraph.commit()",
            "public int PersistentGraph.abort()",
            "public int PersistentGraph.crash(int)",
            "public int PersistentGraph.reachable()"));
        Set<String> got = visibleMembers();
        boolean publicFinal = PersistentGraph.class.getModifiers() == (Modifier.PUBLIC | Modifier.FINAL);
        if (!publicFinal) {
            System.out.println("the class is not just public and final");
        }
        if (!got.equals(want)) {
            System.out.println("the face is " + got + ", due is " + want);
        }
        if (!publicFinal || !got.equals(want)) {
            System.exit(1);
        }
        System.out.println("the face is as due");
    }

    private static Set<String> visibleMembers() {
        Set<String> members = new TreeSet<>();
        for (Field field : PersistentGraph.class.getDeclaredFields()) {
            if (!Modifier.isPrivate(field.getModifiers())) {
                members.add(field.toGenericString() + " = " + constantOf(field));
            }
        }
        for (Constructor<?> constructor : PersistentGraph.class.getDeclaredConstructors()) {
            if (!Modifier.isPrivate(constructor.getModifiers())) {
                members.add(constructor.toGenericString());
            }
        }
        for (Method method : PersistentGraph.class.getDeclaredMethods()) {
            if (!Modifier.isPrivate(method.getModifiers())) {
                members.add(method.toGenericString());
            }
        }
        return members;
    }

    private static String constantOf(Field field) {
        try {
            return String.valueOf(field.get(null));
        } catch (IllegalAccessException | NullPointerException e) {
            return "no constant";
        }
    }
}
