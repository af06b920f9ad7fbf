import java.lang.reflect.Constructor;
import java.lang.reflect.Field;
import java.lang.reflect.Method;
import java.lang.reflect.Modifier;
import java.util.Set;
import java.util.TreeSet;

/** The class has the document's public face, and every other member is private. */
public final class FaceTest {
    private static final Set<String> FACE = Set.of(
        "public static final int BAD",
        "public static final int FULL",
        "public GraphPatterns()",
        "public int addNode(int,int)",
        "public boolean setNode(int,int,int)",
        "public int removeNode(int)",
        "public int addEdge(int,int,int)",
        "public boolean removeEdge(int)",
        "public int degree(int,int)",
        "public int reach(int,int,int)",
        "public int nodes()",
        "public boolean begin(int)",
        "public boolean spot(int,int,int,int)",
        "public boolean link(int,int,int,int)",
        "public int count()",
        "public int part(int,int)",
        "public int weigh(int)",
        "public int keep()",
        "public int kept()");

    private static Set<String> visibleMembers() {
        Set<String> visible = new TreeSet<>();
        for (Field field : GraphPatterns.class.getDeclaredFields()) {
            addUnlessPrivate(visible, field.getModifiers(), field.toString());
        }
        for (Method method : GraphPatterns.class.getDeclaredMethods()) {
            addUnlessPrivate(visible, method.getModifiers(), method.toString());
        }
        for (Constructor<?> constructor : GraphPatterns.class.getDeclaredConstructors()) {
            addUnlessPrivate(visible, constructor.getModifiers(), constructor.toString());
        }
        return visible;
    }

    private static void addUnlessPrivate(Set<String> visible, int modifiers, String text) {
        if (!Modifier.isPrivate(modifiers)) {
            visible.add(text.replace("GraphPatterns.", ""));
        }
    }

    public static void main(String[] args) {
        boolean right = true;
        Set<String> visible = visibleMembers();
        for (String member : visible) {
            if (!FACE.contains(member)) {
                right = false;
                System.out.println("not of the face: " + member);
            }
        }
        for (String member : FACE) {
            if (!visible.contains(member)) {
                right = false;
                System.out.println("missing from the face: " + member);
            }
        }
        int modifiers = GraphPatterns.class.getModifiers();
        if (!Modifier.isPublic(modifiers) || !Modifier.isFinal(modifiers)
                || GraphPatterns.class.getDeclaredClasses().length > 0) {
            right = false;
            System.out.println("the class is not one public and final class");
        }
        System.out.println(right ? "the face is as due" : "the face is not as due");
        if (!right) {
            System.exit(1);
        }
    }
}
