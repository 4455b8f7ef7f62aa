import java.lang.reflect.Constructor;
import java.lang.reflect.Field;
import java.lang.reflect.Member;
import java.lang.reflect.Method;
import java.lang.reflect.Modifier;
import java.util.Arrays;
import java.util.TreeSet;

/** The public face: the document's constructor and methods, and nothing else that another class could see. */
public final class FaceTest {
    public static void main(String[] args) {
        Class<?> type = BiQuinary.class;
        int wanted = Modifier.PUBLIC | Modifier.FINAL;
        Check.due("modifiers of the class", type.getModifiers(), wanted);
        Check.due("nested classes", type.getDeclaredClasses().length, 0);
        Check.due("interfaces", type.getInterfaces().length, 0);
        visibleMembers(type);
        fields(type);
        Check.end();
    }

    private static void visibleMembers(Class<?> type) {
        TreeSet<String> seen = new TreeSet<>();
        for (Constructor<?> c : type.getDeclaredConstructors()) {
            addVisible(seen, c, c.toString());
        }
        for (Method m : type.getDeclaredMethods()) {
            addVisible(seen, m, m.toString());
        }
        for (Field f : type.getDeclaredFields()) {
            addVisible(seen, f, f.toString());
        }
        TreeSet<String> wanted = new TreeSet<>(Arrays.asList(
                "public BiQuinary()",
                "public int BiQuinary.bump()",
                "public int BiQuinary.strike(int,int)",
                "public int BiQuinary.value()",
                "public int BiQuinary.faulty()"));
        if (!seen.equals(wanted)) {
            System.out.println("visible members are " + seen);
        }
        Check.due("members as the document has them (1 is yes)", seen.equals(wanted) ? 1 : 0, 1);
    }

    private static void addVisible(TreeSet<String> seen, Member member, String text) {
        if (!Modifier.isPrivate(member.getModifiers())) {
            seen.add(text);
        }
    }

    private static void fields(Class<?> type) {
        for (Field f : type.getDeclaredFields()) {
            if (Modifier.isStatic(f.getModifiers())) {
                boolean constant = Modifier.isFinal(f.getModifiers())
                        && (f.getType() == int.class || f.getType() == long.class);
                Check.due("static " + f.getName() + " is a constant of int or long (1 is yes)", constant ? 1 : 0, 1);
            }
        }
    }
}
