import java.lang.reflect.Constructor;
import java.lang.reflect.Field;
import java.lang.reflect.Method;
import java.lang.reflect.Modifier;
import java.util.Set;
import java.util.TreeSet;

/** The class has the public face of the document, and no other member that is not private. */
public final class FaceTest {
    private static final Set<String> FACE = Set.of(
            "public static final int PathRanker.NONE",
            "public PathRanker()",
            "public boolean PathRanker.build(int,int,int)",
            "public boolean PathRanker.close(int,int)",
            "public int PathRanker.road(int,int)",
            "public int PathRanker.roads()",
            "public int PathRanker.ways(int,int)",
            "public int PathRanker.length(int,int,int)",
            "public int PathRanker.place(int,int,int,int)",
            "public int PathRanker.size(int,int,int)",
            "public int PathRanker.within(int,int,int)",
            "public int PathRanker.shortest(int,int)",
            "public int PathRanker.musts(int,int)",
            "public int PathRanker.firstAvoiding(int,int,int)",
            "public int PathRanker.detour(int,int,int,int)");

    public static void main(String[] args) {
        Set<String> open = new TreeSet<>();
        for (Field field : PathRanker.class.getDeclaredFields()) {
            if (!Modifier.isPrivate(field.getModifiers())) {
                open.add(field.toString());
            }
        }
        for (Constructor<?> constructor : PathRanker.class.getDeclaredConstructors()) {
            open.add(constructor.toString());
        }
        Set<String> openNames = new TreeSet<>();
        for (Method method : PathRanker.class.getDeclaredMethods()) {
            if (!Modifier.isPrivate(method.getModifiers())) {
                open.add(method.toString());
                openNames.add(method.getName());
            }
        }
        for (String member : FACE) {
            Due.is("has " + member, true, open.contains(member));
        }
        for (String member : open) {
            Due.is("the document has " + member, true, FACE.contains(member));
        }
        for (Method method : PathRanker.class.getDeclaredMethods()) {
            if (Modifier.isPrivate(method.getModifiers())) {
                Due.is("private namesake of a public method: " + method, false, openNames.contains(method.getName()));
            }
        }
        int modifiers = PathRanker.class.getModifiers();
        Due.is("class is public and final", true, Modifier.isPublic(modifiers) && Modifier.isFinal(modifiers));
        Due.is("nested classes", 0, PathRanker.class.getDeclaredClasses().length);
        Due.is("extends nothing", true, PathRanker.class.getSuperclass() == Object.class);
        Due.is("interfaces", 0, PathRanker.class.getInterfaces().length);
        Due.is("NONE", -1, PathRanker.NONE);
        Due.end();
    }
}
