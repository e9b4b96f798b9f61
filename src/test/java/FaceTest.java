import java.lang.reflect.Constructor;
import java.lang.reflect.Field;
import java.lang.reflect.Member;
import java.lang.reflect.Method;
import java.lang.reflect.Modifier;
import java.util.Arrays;
import java.util.Set;
import java.util.TreeSet;

/** The members of the class that are not private are those of the document's face, and no other. */
public final class FaceTest {
    private static final String[] FACE = {
        "public static final int TagTrees.NONE",
        "public static final int TagTrees.WAITS",
        "public TagTrees(int,int)",
        "public int TagTrees.value(int,int,int) throws java.lang.IndexOutOfBoundsException,"
            + "java.lang.IllegalArgumentException,java.lang.IllegalStateException",
        "public int TagTrees.values(int,int,int,int,int) throws java.lang.IndexOutOfBoundsException,"
            + "java.lang.IllegalArgumentException,java.lang.IllegalStateException",
        "public int TagTrees.encode(int,int,int) throws java.lang.IndexOutOfBoundsException,"
            + "java.lang.IllegalArgumentException,java.lang.UnsupportedOperationException",
        "public int TagTrees.cost(int,int,int) throws java.lang.IndexOutOfBoundsException,"
            + "java.lang.IllegalArgumentException",
        "public int TagTrees.encodeAll(int,int) throws java.lang.IllegalArgumentException,"
            + "java.lang.UnsupportedOperationException",
        "public int TagTrees.bitAt(int) throws java.lang.IndexOutOfBoundsException",
        "public int TagTrees.feed(int) throws java.lang.IllegalArgumentException,"
            + "java.lang.UnsupportedOperationException",
        "public int TagTrees.pass(int) throws java.lang.IllegalArgumentException,"
            + "java.lang.UnsupportedOperationException",
        "public int TagTrees.decode(int,int,int) throws java.lang.IndexOutOfBoundsException,"
            + "java.lang.IllegalArgumentException",
        "public int TagTrees.decodeAll(int,int) throws java.lang.IllegalArgumentException",
        "public int TagTrees.known(int,int) throws java.lang.IndexOutOfBoundsException",
        "public int TagTrees.bound(boolean,int,int,int) throws java.lang.IndexOutOfBoundsException",
        "public int TagTrees.least(int,int,int) throws java.lang.IndexOutOfBoundsException",
        "public int TagTrees.leaf(int,int) throws java.lang.IllegalArgumentException,"
            + "java.lang.IndexOutOfBoundsException",
        "public int TagTrees.told(int)",
        "public void TagTrees.reset()",
    };

    public static void main(String[] args) {
        Set<String> got = new TreeSet<>();
        Set<String> publicNames = new TreeSet<>();
        Class<?> tree = TagTrees.class;
        for (Field f : tree.getDeclaredFields()) {
            addUnlessPrivate(got, f, f.toString());
        }
        for (Constructor<?> c : tree.getDeclaredConstructors()) {
            addUnlessPrivate(got, c, c.toString());
        }
        for (Method m : tree.getDeclaredMethods()) {
            addUnlessPrivate(got, m, m.toString());
            if (Modifier.isPublic(m.getModifiers())) {
                publicNames.add(m.getName());
            }
        }
        Due.is("the face", got, new TreeSet<>(Arrays.asList(FACE)));
        Due.is("final", Modifier.isFinal(tree.getModifiers()), true);
        for (Method m : tree.getDeclaredMethods()) {
            if (Modifier.isPrivate(m.getModifiers())) {
                Due.is("a private method with a public name, " + m, publicNames.contains(m.getName()), false);
            }
        }
        Due.is("NONE", TagTrees.NONE, -1);
        Due.is("WAITS", TagTrees.WAITS, -2);
        Due.end();
    }

    private static void addUnlessPrivate(Set<String> all, Member member, String text) {
        if (!Modifier.isPrivate(member.getModifiers())) {
            all.add(text);
        }
    }
}
