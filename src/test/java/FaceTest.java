import java.lang.reflect.Constructor;
import java.lang.reflect.Field;
import java.lang.reflect.Method;
import java.lang.reflect.Modifier;
import java.util.TreeSet;

/** The class has the members of the document's public face, and no other one that can be seen from outside. */
public final class FaceTest {
    private static final String[] FACE = {
        "public static final int BAD_CHAIN = -1",
        "public static final int BAD_BLOCK = -2",
        "public static final int CHAIN_FULL = -3",
        "public static final int NO_BACKUP = -4",
        "public ChangedBlocks()",
        "public int ChangedBlocks.write(int,int)",
        "public int ChangedBlocks.copy(int,int,int)",
        "public int ChangedBlocks.backup(int)",
        "public int ChangedBlocks.restore(int,int)",
        "public int ChangedBlocks.dropOldest(int)",
        "public int ChangedBlocks.drop(int,int)",
        "public void ChangedBlocks.restart()",
        "public void ChangedBlocks.crash()",
        "public int ChangedBlocks.read(int)",
        "public int ChangedBlocks.readBackup(int,int,int)",
        "public int ChangedBlocks.backups(int)",
        "public int ChangedBlocks.changed(int)",
        "public int ChangedBlocks.differ(int,int,int)",
    };

    public static void main(String[] args) throws IllegalAccessException {
        TreeSet<String> due = new TreeSet<>();
        for (String member : FACE) {
            due.add(member);
        }
        TreeSet<String> seen = visibleMembers();
        boolean right = true;
        if (!seen.equals(due)) {
            System.out.println("the face is " + seen + ", due is " + due);
            right = false;
        }
        int modifiers = ChangedBlocks.class.getModifiers();
        if (modifiers != (Modifier.PUBLIC | Modifier.FINAL)) {
            System.out.println("the class is " + Modifier.toString(modifiers) + ", due is public final");
            right = false;
        }
        System.out.println(right ? "the face is as due" : "the face is not as due");
        if (!right) {
            System.exit(1);
        }
    }

    private static TreeSet<String> visibleMembers() throws IllegalAccessException {
        TreeSet<String> seen = new TreeSet<>();
        for (Field field : ChangedBlocks.class.getDeclaredFields()) {
            if (!Modifier.isPrivate(field.getModifiers())) {
                boolean constant = Modifier.isStatic(field.getModifiers());
                String value = constant ? " = " + field.get(null) : "";
                seen.add(Modifier.toString(field.getModifiers()) + " " + field.getType() + " " + field.getName() + value);
            }
        }
        for (Constructor<?> constructor : ChangedBlocks.class.getDeclaredConstructors()) {
            if (!Modifier.isPrivate(constructor.getModifiers())) {
                seen.add(constructor.toString());
            }
        }
        for (Method method : ChangedBlocks.class.getDeclaredMethods()) {
            if (!Modifier.isPrivate(method.getModifiers())) {
                seen.add(method.toString());
            }
        }
        return seen;
    }
}
