import java.lang.reflect.Constructor;
import java.lang.reflect.Field;
import java.lang.reflect.Method;
import java.lang.reflect.Modifier;
import java.util.Set;
import java.util.TreeSet;

/** The members that others see are the document's face, and no more. */
public final class FaceTest {
    private static final String[] FACE = {
        "int addNode()", "int crash(int)", "int restart(int)", "int deliver(int)", "int deliverAll()",
        "int inboxLength(int)", "int weight(int)", "float share(int)", "boolean isFenced(int,int)",
        "int rejections()", "int createLedger(int,int,int)", "int append(int,int)", "int replace(int,int)",
        "int recover(int)", "int repair(int)", "int read(int,int)", "int state(int)", "int lastReadable(int)",
        "int appended(int)", "int acknowledgements(int,int)", "int holders(int,int)", "int fragmentCount(int)",
        "int firstEntry(int,int)", "int member(int,int,int)", "int underReplicated(int)", "int undo()",
        "long digest()", "NONE", "UNDECIDED", "OPEN", "RECOVERING", "CLOSED", "LedgerStore()",
    };

    private static final Check check = new Check();

    public static void main(String[] args) {
        check.part("the face");
        Set<String> want = new TreeSet<>(Set.of(FACE));
        Set<String> got = visibleMembers();
        if (!got.equals(want)) {
            check.report("the visible members are " + got + ", due are " + want);
        }
        int modifiers = LedgerStore.class.getModifiers();
        check.due("public and final", Modifier.isPublic(modifiers) && Modifier.isFinal(modifiers), true);
        privateNamesDiffer();
        constants();
        check.finish("FaceTest");
    }

    private static Set<String> visibleMembers() {
        Set<String> found = new TreeSet<>();
        for (Method m : LedgerStore.class.getDeclaredMethods()) {
            if (!Modifier.isPrivate(m.getModifiers())) {
                found.add(m.getReturnType() + " " + m.getName() + parameters(m.getParameterTypes()));
            }
        }
        for (Field f : LedgerStore.class.getDeclaredFields()) {
            if (!Modifier.isPrivate(f.getModifiers())) {
                found.add(f.getName());
            }
        }
        for (Constructor<?> c : LedgerStore.class.getDeclaredConstructors()) {
            if (!Modifier.isPrivate(c.getModifiers())) {
                found.add(c.getName() + parameters(c.getParameterTypes()));
            }
        }
        return found;
    }

    private static String parameters(Class<?>[] types) {
        StringBuilder text = new StringBuilder("(");
        for (Class<?> type : types) {
            text.append(text.length() > 1 ? "," : "").append(type);
        }
        return text.append(")").toString();
    }

    private static void privateNamesDiffer() {
        Set<String> publicNames = new TreeSet<>();
        Set<String> otherNames = new TreeSet<>();
        for (Method m : LedgerStore.class.getDeclaredMethods()) {
            (Modifier.isPublic(m.getModifiers()) ? publicNames : otherNames).add(m.getName());
        }
        for (Class<?> inside : LedgerStore.class.getDeclaredClasses()) {
            for (Method m : inside.getDeclaredMethods()) {
                otherNames.add(m.getName());
            }
        }
        otherNames.retainAll(publicNames);
        if (!otherNames.isEmpty()) {
            check.report("methods inside bear names of the face: " + otherNames);
        }
    }

    private static void constants() {
        check.due("NONE", LedgerStore.NONE, -1);
        check.due("UNDECIDED", LedgerStore.UNDECIDED, -2);
        check.due("OPEN", LedgerStore.OPEN, 0);
        check.due("RECOVERING", LedgerStore.RECOVERING, 1);
        check.due("CLOSED", LedgerStore.CLOSED, 2);
    }
}
