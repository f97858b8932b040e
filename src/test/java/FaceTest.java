import java.lang.reflect.Executable;
import java.lang.reflect.Field;
import java.lang.reflect.Method;
import java.lang.reflect.Modifier;
import java.util.Set;
import java.util.TreeSet;

/** The class shows the document's face and nothing else. */
public final class FaceTest {
    private static final Set<String> FACE = Set.of(
        "public SnapshotHeap()",
        "public int SnapshotHeap.tuple(int,int) throws java.lang.IndexOutOfBoundsException,java.lang.IllegalArgumentException,java.lang.IllegalStateException",
        "public void SnapshotHeap.number(int,long) throws java.lang.IndexOutOfBoundsException",
        "public void SnapshotHeap.copy(int,int) throws java.lang.IndexOutOfBoundsException",
        "public void SnapshotHeap.get(int,int,int) throws java.lang.IndexOutOfBoundsException,java.util.NoSuchElementException",
        "public void SnapshotHeap.set(int,int,int) throws java.lang.IndexOutOfBoundsException,java.util.NoSuchElementException",
        "public void SnapshotHeap.step(int) throws java.lang.IllegalArgumentException",
        "public int SnapshotHeap.pace(int) throws java.lang.IllegalArgumentException",
        "public int SnapshotHeap.size(int) throws java.lang.IndexOutOfBoundsException",
        "public long SnapshotHeap.value(int) throws java.lang.IndexOutOfBoundsException",
        "public boolean SnapshotHeap.same(int,int) throws java.lang.IndexOutOfBoundsException",
        "public int SnapshotHeap.count(int) throws java.lang.IllegalArgumentException",
        "public long SnapshotHeap.digest()",
        "public int SnapshotHeap.collect()",
        "public int SnapshotHeap.check()");

    public static void main(String[] args) {
        Expect expect = new Expect();
        Set<String> shown = new TreeSet<>();
        Set<String> hiddenNames = new TreeSet<>();
        for (Method method : SnapshotHeap.class.getDeclaredMethods()) {
            note(method, shown, hiddenNames);
        }
        note(SnapshotHeap.class.getDeclaredConstructors()[0], shown, hiddenNames);
        expect.yes("the face is " + FACE + ", not " + shown, shown.equals(FACE));
        for (String name : hiddenNames) {
            expect.yes("no private method is named " + name, FACE.stream().noneMatch(f -> f.contains("." + name + "(")));
        }
        for (Field field : SnapshotHeap.class.getDeclaredFields()) {
            expect.yes(field + " is private", Modifier.isPrivate(field.getModifiers()));
        }
        int modifiers = SnapshotHeap.class.getModifiers();
        expect.yes("the class is public and final", Modifier.isPublic(modifiers) && Modifier.isFinal(modifiers));
        expect.end();
    }

    private static void note(Executable member, Set<String> shown, Set<String> hiddenNames) {
        if (Modifier.isPrivate(member.getModifiers())) {
            hiddenNames.add(member.getName());
        } else {
            shown.add(member.toString());
        }
    }
}
