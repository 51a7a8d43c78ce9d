import java.lang.reflect.Constructor;
import java.lang.reflect.Field;
import java.lang.reflect.Method;
import java.lang.reflect.Modifier;
import java.util.Set;
import java.util.TreeSet;

/** The visible members are those of the document's face, and no others. */
public final class FaceTest {
    private static int wrong = 0;

    private static void due(String what, Object got, Object want) {
        if (!got.equals(want)) {
            wrong++;
            System.out.println(what + ": is " + got + ", due is " + want);
        }
    }

    private static Set<String> visibleMembers() {
        Set<String> members = new TreeSet<>();
        for (Field f : Percolator.class.getDeclaredFields()) {
            if (!Modifier.isPrivate(f.getModifiers())) {
                members.add(f.toString());
            }
        }
        for (Constructor<?> c : Percolator.class.getDeclaredConstructors()) {
            if (!Modifier.isPrivate(c.getModifiers())) {
                members.add(c.toString());
            }
        }
        for (Method m : Percolator.class.getDeclaredMethods()) {
            if (!Modifier.isPrivate(m.getModifiers())) {
                members.add(m.toString());
            }
        }
        return members;
    }

    private static Set<String> dueMembers() {
        Set<String> members = new TreeSet<>();
        for (String name : new String[] {"BAD_QUERY", "BAD_TERM", "FULL", "BAD_LEAST", "NONE"}) {
            members.add("public static final int Percolator." + name);
        }
        members.add("public Percolator()");
        for (String method : new String[] {
                "int Percolator.create(int)", "int Percolator.must(int,int)",
                "int Percolator.not(int,int)", "int Percolator.should(int,int)",
                "int Percolator.phrase(int,int,int)", "int Percolator.range(int,int,int)",
                "int Percolator.remove(int)", "int Percolator.word(int)",
                "void Percolator.document(int)", "int Percolator.matches()",
                "int Percolator.match(int)", "int Percolator.score(int)",
                "boolean Percolator.matchesQuery(int)"}) {
            members.add("public " + method);
        }
        return members;
    }

    private static Set<String> privateNamesThatArePublicToo() {
        Set<String> publicNames = new TreeSet<>();
        Set<String> privateNames = new TreeSet<>();
        for (Method m : Percolator.class.getDeclaredMethods()) {
            (Modifier.isPrivate(m.getModifiers()) ? privateNames : publicNames).add(m.getName());
        }
        privateNames.retainAll(publicNames);
        return privateNames;
    }

    private static Set<String> staticsThatAreNoConstants() {
        Set<String> names = new TreeSet<>();
        for (Field f : Percolator.class.getDeclaredFields()) {
            boolean number = f.getType() == int.class || f.getType() == long.class;
            if (Modifier.isStatic(f.getModifiers()) && !(number && Modifier.isFinal(f.getModifiers()))) {
                names.add(f.getName());
            }
        }
        return names;
    }

    public static void main(String[] args) {
        due("visible members", visibleMembers(), dueMembers());
        due("private methods that bear a public name", privateNamesThatArePublicToo(), Set.of());
        due("static fields that are no constants", staticsThatAreNoConstants(), Set.of());
        due("nested classes", Percolator.class.getDeclaredClasses().length, 0);
        due("public and final", Percolator.class.getModifiers(), Modifier.PUBLIC | Modifier.FINAL);
        due("superclass", Percolator.class.getSuperclass(), Object.class);
        due("interfaces", Percolator.class.getInterfaces().length, 0);
        due("BAD_QUERY", Percolator.BAD_QUERY, -1);
        due("BAD_TERM", Percolator.BAD_TERM, -2);
        due("FULL", Percolator.FULL, -3);
        due("BAD_LEAST", Percolator.BAD_LEAST, -4);
        due("NONE", Percolator.NONE, -5);
        System.out.println(wrong == 0 ? "the face is as due" : wrong + " things of the face are not as due");
        if (wrong != 0) {
            System.exit(1);
        }
    }
}
