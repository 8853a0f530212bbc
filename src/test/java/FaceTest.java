import java.lang.reflect.Member;
import java.lang.reflect.Method;
import java.lang.reflect.Modifier;
import java.util.ArrayList;
import java.util.Arrays;
import java.util.List;
import java.util.TreeSet;

/** The public face and the constants, and promise 1: a new object. */
public final class FaceTest {
    private static String throwsOf(Method method) {
        List<String> names = new ArrayList<>();
        for (Class<?> thrown : method.getExceptionTypes()) {
            names.add(thrown.getSimpleName());
        }
        return String.join(",", names);
    }

    private static TreeSet<String> openMembers() {
        List<Member> members = new ArrayList<>(Arrays.asList(PaperObjects.class.getDeclaredMethods()));
        members.addAll(Arrays.asList(PaperObjects.class.getDeclaredFields()));
        TreeSet<String> names = new TreeSet<>();
        for (Member member : members) {
            if (!Modifier.isPrivate(member.getModifiers())) {
                names.add(member.getName());
            }
        }
        return names;
    }

    private static void face() throws NoSuchMethodException {
        Paper.due("open members", openMembers().toString(), new TreeSet<>(List.of(
            "NULL", "TRUE", "FALSE", "NUMBER", "NAME", "STRING", "ARRAY", "DICTIONARY", "REFERENCE", "NONE",
            "TAIL", "TABLE", "OBJECT", "LENGTH", "type", "put", "content", "free", "root", "save", "load", "at",
            "fault", "poke", "cut", "size", "character", "state", "go", "into", "follow", "value", "printed",
            "reached")).toString());
        Class<?> face = PaperObjects.class;
        Paper.due("final", "" + Modifier.isFinal(face.getModifiers()), "true");
        Paper.due("put", throwsOf(face.getMethod("put", int.class)), "IndexOutOfBoundsException,IllegalStateException,IllegalArgumentException");
        Paper.due("content", throwsOf(face.getMethod("content", int.class)), "NoSuchElementException,IllegalStateException,IllegalArgumentException");
        Paper.due("save", throwsOf(face.getMethod("save", boolean.class)), "IllegalStateException,UnsupportedOperationException");
        Paper.due("poke", throwsOf(face.getMethod("poke", int.class, char.class)), "IndexOutOfBoundsException,IllegalArgumentException");
    }

    private static void constants() {
        int[] kinds = {PaperObjects.NULL, PaperObjects.TRUE, PaperObjects.FALSE, PaperObjects.NUMBER, PaperObjects.NAME,
            PaperObjects.STRING, PaperObjects.ARRAY, PaperObjects.DICTIONARY, PaperObjects.REFERENCE};
        Paper.due("kinds", Arrays.toString(kinds), "[0, 1, 2, 3, 4, 5, 6, 7, 8]");
        int[] others = {PaperObjects.NONE, PaperObjects.TAIL, PaperObjects.TABLE, PaperObjects.OBJECT, PaperObjects.LENGTH};
        Paper.due("others", Arrays.toString(others), "[-1, 1, 2, 3, 4]");
    }

    private static void newObject() {
        Paper x = new Paper();
        Paper.due("states", x.states(), "0 0 0 0 0 0 0 0 0");
        Paper.due("draft", x.ask(p -> p.type(0)), 0);
        Paper.due("size", x.size(), 0);
        Paper.due("reached", x.reached(), 0);
        Paper.due("at", x.at(), -1);
        Paper.due("fault", x.fault(), 0);
        Paper.due("printed", x.printed(0), -1);
        Paper.due("save anew without a root", x.save(true), Paper.STATE);
        Paper.due("save by adding without a root", x.save(false), Paper.STATE);
        Paper.due("value without a cursor", x.value(0), Paper.STATE);
    }

    private static void objectsAreApart() {
        Paper x = new Paper();
        Paper y = new Paper();
        x.put(1, "1");
        x.type("abc");
        Paper.due("another object's table", y.state(1), 0);
        Paper.due("another object's draft", y.ask(p -> p.type(0)), 0);
    }

    public static void main(String[] args) throws NoSuchMethodException {
        face();
        constants();
        newObject();
        objectsAreApart();
        Paper.end();
    }
}
