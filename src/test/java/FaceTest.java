import java.lang.reflect.Field;
import java.lang.reflect.Member;
import java.lang.reflect.Method;
import java.lang.reflect.Modifier;
import java.util.Arrays;
import java.util.List;
import java.util.stream.Stream;

/** The class shows the document's face, and nothing else that is not private. */
public final class FaceTest {
    private static final List<String> METHODS = List.of("as 2", "back 1", "ballast 1", "confessed 2", "count 1",
            "erase 0", "fault 0", "forget 0", "heard 3", "keep 1", "kirk 0", "never 1", "part 2", "preach 1", "rain 1",
            "seen 3", "sin 2", "sins 1", "soonest 1", "stops 0", "sunday 0", "thumbs 0", "undo 0", "weights 1",
            "write 1");
    private static final List<String> CONSTANTS = List.of("FULL", "NONE", "NOT", "OUTSIDE", "UNKNOWN");

    public static void main(String[] args) {
        Check c = new Check();
        Method[] methods = SermonScale.class.getDeclaredMethods();
        c.due("the methods are as told",
                shown(methods).map(m -> m.getName() + " " + ((Method) m).getParameterCount()).sorted().toList()
                        .equals(METHODS) ? 1 : 0, 1);
        c.due("all take and answer int", (int) shown(methods).filter(m -> !isOfInts((Method) m)).count(), 0);
        c.due("the constants are as told",
                shown(SermonScale.class.getDeclaredFields()).map(Member::getName).sorted().toList()
                        .equals(CONSTANTS) ? 1 : 0, 1);
        for (Field field : SermonScale.class.getDeclaredFields()) {
            c.due(field.getName() + " is not static and changing",
                    Modifier.isStatic(field.getModifiers()) && !Modifier.isFinal(field.getModifiers()) ? 1 : 0, 0);
        }
        c.due("constructors", SermonScale.class.getDeclaredConstructors().length, 1);
        c.due("final", Modifier.isFinal(SermonScale.class.getModifiers()) ? 1 : 0, 1);
        c.end();
    }

    private static Stream<Member> shown(Member[] members) {
        return Arrays.stream(members).filter(m -> !Modifier.isPrivate(m.getModifiers()));
    }

    private static boolean isOfInts(Method method) {
        return method.getReturnType() == int.class
                && Arrays.stream(method.getParameterTypes()).allMatch(type -> type == int.class);
    }
}
