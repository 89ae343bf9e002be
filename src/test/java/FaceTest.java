import java.lang.reflect.Field;
import java.lang.reflect.Member;
import java.lang.reflect.Method;
import java.lang.reflect.Modifier;
import java.util.Arrays;
import java.util.Set;
import java.util.TreeSet;

/** The class has the document's public face, and no other member that is not private. */
public final class FaceTest {
    private static final Set<String> FACE = Set.of(
        "public int DistanceMap.mark(int,int)",
        "public int DistanceMap.clear(int,int)",
        "public int DistanceMap.distance(int,int)",
        "public int DistanceMap.nearest(int,int)",
        "public int DistanceMap.reach(int,int)",
        "public int DistanceMap.farthest()",
        "public int DistanceMap.within(int)",
        "public int DistanceMap.edges()",
        "public int DistanceMap.total()");

    public static void main(String[] args) {
        Class<?> type = DistanceMap.class;
        Check.due("class is public final", type.getModifiers(), Modifier.PUBLIC | Modifier.FINAL);
        Check.due("constructors", type.getDeclaredConstructors().length, 1);
        Check.due("public constructors without parameters", plainConstructors(type), 1);
        Check.due("nested classes", type.getDeclaredClasses().length, 0);
        methods(type);
        fields(type);
        Check.finish();
    }

    private static int plainConstructors(Class<?> type) {
        return (int) Arrays.stream(type.getConstructors()).filter(c -> c.getParameterCount() == 0).count();
    }

    private static void methods(Class<?> type) {
        Set<String> seen = new TreeSet<>();
        Set<String> publicNames = new TreeSet<>();
        for (Method method : type.getDeclaredMethods()) {
            if (!isPrivate(method)) {
                seen.add(method.toString());
                publicNames.add(method.getName());
            }
        }
        Check.due("methods that are not private: " + seen, seen.equals(FACE) ? 1 : 0, 1);
        for (Method method : type.getDeclaredMethods()) {
            boolean doubled = isPrivate(method) && publicNames.contains(method.getName());
            Check.due("private method with a public name: " + method, doubled ? 1 : 0, 0);
        }
    }

    private static void fields(Class<?> type) {
        for (Field field : type.getDeclaredFields()) {
            Check.due("field is private: " + field, isPrivate(field) ? 1 : 0, 1);
        }
    }

    private static boolean isPrivate(Member member) {
        return Modifier.isPrivate(member.getModifiers());
    }
}
