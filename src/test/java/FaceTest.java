import java.lang.reflect.Member;
import java.lang.reflect.Method;
import java.lang.reflect.Modifier;
import java.util.ArrayList;
import java.util.Arrays;
import java.util.List;
import java.util.TreeSet;

/** The public face and the constants, and promise 1: a new object. */
public final class FaceTest {
    /** The methods as the document has them, but for the names of their parameters. */
    private static final String[] METHODS = {
        "int type(long) throws IllegalArgumentException",
        "void put(int) throws IndexOutOfBoundsException, IllegalStateException, IllegalArgumentException",
        "void content(int) throws NoSuchElementException, IllegalStateException, IllegalArgumentException",
        "void free(int) throws NoSuchElementException",
        "void root(int) throws NoSuchElementException",
        "int save(boolean) throws IllegalStateException, UnsupportedOperationException",
        "int load() throws IllegalArgumentException",
        "int at()",
        "int fault()",
        "void poke(int, char) throws IndexOutOfBoundsException, IllegalArgumentException",
        "void cut(int) throws IndexOutOfBoundsException",
        "int size()",
        "int character(int) throws IndexOutOfBoundsException",
        "int state(int) throws IndexOutOfBoundsException",
        "int go(int) throws NoSuchElementException",
        "int into(int) throws IllegalStateException, IndexOutOfBoundsException",
        "int follow() throws IllegalStateException, UnsupportedOperationException",
        "int value(int) throws IllegalStateException, IllegalArgumentException",
        "int printed(int)",
        "int reached()",
    };

    private static String names(Class<?>[] classes) {
        List<String> names = new ArrayList<>();
        for (Class<?> one : classes) {
            names.add(one.getSimpleName());
        }
        return String.join(", ", names);
    }

    private static TreeSet<String> publicMethods() {
        TreeSet<String> found = new TreeSet<>();
        for (Method method : PaperObjects.class.getDeclaredMethods()) {
            if (Modifier.isPublic(method.getModifiers())) {
                String thrown = names(method.getExceptionTypes());
                found.add(method.getReturnType() + " " + method.getName() + "(" + names(method.getParameterTypes()) + ")"
                    + (thrown.isEmpty() ? "" : " throws " + thrown));
            }
        }
        return found;
    }

    private static TreeSet<String> openMembers() {
        List<Member> members = new ArrayList<>(Arrays.asList(PaperObjects.class.getDeclaredMethods()));
        members.addAll(Arrays.asList(PaperObjects.class.getDeclaredFields()));
        TreeSet<String> names = new TreeSet<>();
        for (Member member : members) {
            if (!Modifier.isPrivate(member.getModifiers())) {
                names.add(member.getName());
            }
        }
        return names;
    }

    private static void face() {
        Paper.due("open members", openMembers().toString(), new TreeSet<>(List.of(
            "NULL", "TRUE", "FALSE", "NUMBER", "NAME", "STRING", "ARRAY", "DICTIONARY", "REFERENCE", "NONE",
            "TAIL", "TABLE", "OBJECT", "LENGTH", "type", "put", "content", "free", "root", "save", "load", "at",
            "fault", "poke", "cut", "size", "character", "state", "go", "into", "follow", "value", "printed",
            "reached")).toString());
        Paper.due("methods", publicMethods().toString(), new TreeSet<>(List.of(METHODS)).toString());
        Paper.due("constructors", names(PaperObjects.class.getDeclaredConstructors()[0].getParameterTypes()), "");
        Paper.due("final", "" + Modifier.isFinal(PaperObjects.class.getModifiers()), "true");
    }

    private static void constants() {
        int[] kinds = {PaperObjects.NULL, PaperObjects.TRUE, PaperObjects.FALSE, PaperObjects.NUMBER, PaperObjects.NAME,
            PaperObjects.STRING, PaperObjects.ARRAY, PaperObjects.DICTIONARY, PaperObjects.REFERENCE};
        Paper.due("kinds", Arrays.toString(kinds), "[0, 1, 2, 3, 4, 5, 6, 7, 8]");
        int[] others = {PaperObjects.NONE, PaperObjects.TAIL, PaperObjects.TABLE, PaperObjects.OBJECT, PaperObjects.LENGTH};
        Paper.due("others", Arrays.toString(others), "[-1, 1, 2, 3, 4]");
    }

    private static void newObject() {
        Paper x = new Paper();
        Paper.due("states", x.states(), "0 0 0 0 0 0 0 0 0");
        Paper.due("draft", x.ask(p -> p.type(0)), 0);
        Paper.due("size", x.size(), 0);
        Paper.due("reached", x.reached(), 0);
        Paper.due("at", x.at(), -1);
        Paper.due("fault", x.fault(), 0);
        Paper.due("printed", x.printed(0), -1);
        Paper.due("save anew without a root", x.save(true), Paper.STATE);
        Paper.due("save by adding without a root", x.save(false), Paper.STATE);
        Paper.due("value without a cursor", x.value(0), Paper.STATE);
    }

    private static void objectsAreApart() {
        Paper x = new Paper();
        Paper y = new Paper();
        x.put(1, "1");
        x.type("abc");
        Paper.due("another object's table", y.state(1), 0);
        Paper.due("another object's draft", y.ask(p -> p.type(0)), 0);
    }

    public static void main(String[] args) {
        face();
        constants();
        newObject();
        objectsAreApart();
        Paper.end();
    }
}
