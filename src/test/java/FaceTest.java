import java.lang.reflect.Constructor;
import java.lang.reflect.Field;
import java.lang.reflect.Method;
import java.lang.reflect.Modifier;
import java.util.Arrays;
import java.util.Set;
import java.util.TreeSet;
import java.util.stream.Collectors;

/** The public face: just the members that the document lists, with their signatures and values. */
public final class FaceTest {
    private static final Check check = new Check();

    private static final Set<String> METHODS = Set.of(
        "int type(int)", "int clearText()", "int fault()", "int build()", "int plug(int,int,int,int)",
        "int unplug(int)", "int widen(int,boolean)", "int router(int,int)", "int plugged(int,int)",
        "int link(int,int)", "int capacity(int,int)", "int freeCredits(int,int)", "int load(int,int)",
        "int open(int,int,int)", "int close(int)", "int claim(int,int)", "int offer(int,int,int)",
        "int tunnel(int,int)", "int hop(int,int,int,int)", "int cellCount(int,int,int)", "int tick(int)",
        "int setPatience(int)", "int fairShare(int,int)", "int room(int)", "int bestPort(int)", "int gain(int)",
        "int bottleneck(int)", "int count(int)", "int save(int)", "int restore(int)", "long digest()");

    private static final Set<String> CONSTANTS = Set.of(
        "HUB=0", "SCREEN=1", "DISK=2", "NETWORK=3", "HOST=4", "VIDEO=0", "STORAGE=1", "PACKETS=2", "BAD=-1",
        "WRONG_KIND=-2", "OCCUPIED=-3", "TOO_DEEP=-4", "FULL=-5", "NO_CREDIT=-6", "NO_BANDWIDTH=-7", "STATE=-8",
        "NONE=-10");

    public static void main(String[] args) throws Exception {
        check.part("face");
        check.dueTrue(Modifier.isPublic(TunnelFabric.class.getModifiers()), "the class is public");
        check.dueTrue(Modifier.isFinal(TunnelFabric.class.getModifiers()), "the class is final");
        methods();
        constants();
        constructors();
        check.end();
    }

    private static void methods() {
        Set<String> found = new TreeSet<>();
        for (Method method : TunnelFabric.class.getDeclaredMethods()) {
            boolean listed = METHODS.contains(signature(method));
            if (Modifier.isPublic(method.getModifiers()) && !Modifier.isStatic(method.getModifiers())) {
                found.add(signature(method));
            } else {
                check.dueTrue(Modifier.isPrivate(method.getModifiers()), method.getName() + " is private");
                check.dueTrue(METHODS.stream().noneMatch(m -> m.contains(" " + method.getName() + "(")),
                    method.getName() + " has not the name of a public method");
            }
            check.dueTrue(listed || Modifier.isPrivate(method.getModifiers()), method.getName() + " is listed");
        }
        check.dueTrue(found.equals(METHODS), "the public methods are those of the document: " + found);
    }

    private static String signature(Method method) {
        String types = Arrays.stream(method.getParameterTypes()).map(Class::getName).collect(Collectors.joining(","));
        return method.getReturnType().getName() + " " + method.getName() + "(" + types + ")";
    }

    private static void constants() throws IllegalAccessException {
        Set<String> found = new TreeSet<>();
        for (Field field : TunnelFabric.class.getDeclaredFields()) {
            if (Modifier.isPublic(field.getModifiers())) {
                check.dueTrue(Modifier.isStatic(field.getModifiers()), field.getName() + " is static");
                check.dueTrue(Modifier.isFinal(field.getModifiers()), field.getName() + " is final");
                check.dueTrue(field.getType() == int.class, field.getName() + " is an int");
                found.add(field.getName() + "=" + field.getInt(null));
            } else {
                check.dueTrue(Modifier.isPrivate(field.getModifiers()), field.getName() + " is private");
            }
        }
        check.dueTrue(found.equals(CONSTANTS), "the constants are those of the document: " + found);
    }

    private static void constructors() {
        Constructor<?>[] all = TunnelFabric.class.getDeclaredConstructors();
        check.due(1, all.length, "the number of constructors");
        check.due(0, all[0].getParameterCount(), "the number of its parameters");
        check.dueTrue(Modifier.isPublic(all[0].getModifiers()), "the constructor is public");
    }
}
