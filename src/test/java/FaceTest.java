import java.lang.reflect.Constructor;
import java.lang.reflect.Field;
import java.lang.reflect.Member;
import java.lang.reflect.Method;
import java.lang.reflect.Modifier;
import java.util.ArrayList;
import java.util.Arrays;
import java.util.List;
import java.util.Set;
import java.util.TreeSet;

/** The public face is the document's: nothing is missing, and nothing else can be seen. */
public final class FaceTest {
    private static final List<String> FACE = List.of(
        "int mount(int, int, int)", "int unmount(int)", "int open(int, int)", "int shut(int)", "int put(int, int)",
        "int take(int)", "int move(int, int)", "int swap(int, int)", "int find(int)", "int weigh(int, int)",
        "int drop(int, int, int)", "long tally()", "int first(int)", "int recode(int, int)", "int told(int, int)",
        "int item(int, int)", "int latch()", "LockerWall()",
        "BAD = -1", "BARE = -2", "SHUT = -3", "BLOCKED = -4", "FULL = -5", "EMPTY = -6", "WRONG = -7", "NONE = -8");

    public static void main(String[] args) throws IllegalAccessException {
        Set<String> seen = new TreeSet<>();
        List<String> faults = new ArrayList<>();
        Set<String> publicNames = new TreeSet<>();
        for (Method method : LockerWall.class.getDeclaredMethods()) {
            if (Modifier.isPublic(method.getModifiers())) {
                publicNames.add(method.getName());
            }
        }
        for (Method method : LockerWall.class.getDeclaredMethods()) {
            String text = method.getReturnType() + " " + method.getName() + parameters(method.getParameterTypes());
            if (isSeen(method)) {
                seen.add(text);
            } else if (publicNames.contains(method.getName())) {
                faults.add("a private method with a public one's name: " + text);
            }
        }
        for (Constructor<?> constructor : LockerWall.class.getDeclaredConstructors()) {
            if (isSeen(constructor)) {
                seen.add("LockerWall" + parameters(constructor.getParameterTypes()));
            }
        }
        for (Field field : LockerWall.class.getDeclaredFields()) {
            if (isSeen(field)) {
                seen.add(field.getName() + " = " + (Modifier.isStatic(field.getModifiers()) ? field.get(null) : "?"));
            }
        }
        if (!Modifier.isPublic(LockerWall.class.getModifiers()) || !Modifier.isFinal(LockerWall.class.getModifiers())) {
            faults.add("the class is not public and final");
        }
        for (String due : FACE) {
            if (!seen.remove(due)) {
                faults.add("missing: " + due);
            }
        }
        seen.forEach(more -> faults.add("not in the document: " + more));
        faults.forEach(System.out::println);
        System.out.println(faults.isEmpty() ? "FaceTest: as due" : "FaceTest: " + faults.size() + " faults");
        if (!faults.isEmpty()) {
            System.exit(1);
        }
    }

    private static boolean isSeen(Member member) {
        return !Modifier.isPrivate(member.getModifiers());
    }

    private static String parameters(Class<?>[] types) {
        String text = Arrays.toString(types);
        return "(" + text.substring(1, text.length() - 1) + ")";
    }
}
