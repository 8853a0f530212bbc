import java.util.Arrays;
import java.util.LinkedHashMap;
import java.util.Map;
import java.util.function.Consumer;
import java.util.function.Function;

/**
 * "A call that throws changes nothing but what is said; exceptions are looked at in the order of the throws
 * clauses." For each reason to throw, two objects are made alike, one of them is asked what it refuses, and
 * then all that can be seen of the two is compared.
 */
public final class RefusedCallsTest extends Checks {
    private static final Map<String, Function<Paper, String>> VIEWS = new LinkedHashMap<>();

    private static void views() {
        VIEWS.put("draft", RefusedCallsTest::draft);
        VIEWS.put("at", Paper::at);
        VIEWS.put("fault", Paper::fault);
        VIEWS.put("cursor", x -> x.value(0) + " " + x.value(1) + " " + x.value(2) + " " + x.printed());
        VIEWS.put("states", x -> x.states() + ", reached " + x.reached());
        VIEWS.put("values 1 .. 3", x -> values(x, 1));
        VIEWS.put("values 4 .. 6", x -> values(x, 4));
        VIEWS.put("values 7 .. 9", x -> values(x, 7));
        VIEWS.put("file", RefusedCallsTest::file);
        VIEWS.put("file saved anew", x -> x.save(true) + " " + file(x));
        VIEWS.put("file saved by adding", x -> x.save(false) + " " + file(x));
        VIEWS.put("file loaded", x -> x.loaded() + " " + x.states());
    }

    /** How long the draft is, and how it is read. */
    private static String draft(Paper x) {
        return x.ask(p -> p.type(0)) + " " + x.put(8) + " " + x.at() + " " + x.printedOf(8);
    }

    private static String values(Paper x, int first) {
        StringBuilder all = new StringBuilder();
        for (int number = first; number < first + 3; number++) {
            all.append(number).append(' ').append(x.printedOf(number)).append('\n');
        }
        return all.toString();
    }

    /** All of a file, or of one for which there are not calls enough what there are enough for. */
    private static String file(Paper x) {
        int size = Integer.parseInt(x.size());
        return size + "\n" + x.fileTextFrom(size - 230);
    }

    /** That the call throws, and changes nothing but the views that are named. */
    private static void refuses(String what, Consumer<Paper> setup, Function<Paper, String> call, String exception, String... changed) {
        for (Map.Entry<String, Function<Paper, String>> view : VIEWS.entrySet()) {
            Paper before = new Paper();
            setup.accept(before);
            Paper after = new Paper();
            setup.accept(after);
            Paper.due(what, call.apply(after), exception);
            String was = view.getValue().apply(before);
            String is = view.getValue().apply(after);
            if (Arrays.asList(changed).contains(view.getKey())) {
                Paper.due(what + ": has the " + view.getKey() + " changed", "" + !is.equals(was), "true");
            } else {
                Paper.due(what + ": " + view.getKey(), is, was);
            }
        }
    }

    /** Something of all there is: contents, a freed one, changed ones, a draft, a cursor, faults of before. */
    private static void full(Paper x) {
        x.put(1, "[2 0 R 3 1 R (a\\)b)]");
        x.put(2, "<</a [1 2]>>");
        x.content(2, "stream");
        x.put(3, "0");
        x.free(3);
        x.put(3, "/three");
        x.load();
        x.root(1);
        x.save(true);
        x.load();
        x.put(4, "<</Length 3 1 R>>");
        x.put(5, "[5]");
        x.free(5);
        x.put(6, "6 0 R");
        x.put(7, "<</a[1 2 3 4 5 6 7 8 9 0]>>");
        x.put(9, "[1 2 x]");
        x.go(1);
        x.into(2);
        x.type(" [ 7 ] ");
    }

    private static Consumer<Paper> fullAnd(Consumer<Paper> more) {
        return x -> {
            full(x);
            more.accept(x);
        };
    }

    private static void typing() {
        Paper.says("IllegalArgumentException when one is no character, or it would have more than 100.");
        refuses("type of a byte 127 behind others", RefusedCallsTest::full, x -> x.ask(p -> p.type(0x7F_20_20L)), Paper.ARGUMENT);
        refuses("type of one too many", fullAnd(x -> x.type(" ".repeat(92))), x -> x.ask(p -> p.type(0x20_20L)), Paper.ARGUMENT);
    }

    private static void putting() {
        Paper.says("The draft is empty then, also when it has a fault (it stays with the other two exceptions).");
        refuses("put 0", RefusedCallsTest::full, x -> x.put(0), Paper.BOUNDS);
        refuses("put 10", RefusedCallsTest::full, x -> x.put(10), Paper.BOUNDS);
        refuses("put of generation 9", fullAnd(x -> generation9(x)), x -> x.put(5), Paper.STATE);
        refuses("put with a fault", fullAnd(x -> x.type("x")), x -> x.put(1), Paper.ARGUMENT, "draft", "at");
        refuses("put with a fault of one that is free", fullAnd(x -> x.type("x")), x -> x.put(9), Paper.ARGUMENT, "draft", "at");
    }

    private static void generation9(Paper x) {
        x.put(9);
        for (int i = 1; i < 9; i++) {
            x.put(5, "1");
            x.free(5);
        }
        x.go(7);
        x.type("[8]");
    }

    private static void contents() {
        Paper.says("IllegalArgumentException when the draft has a newline or more than 12 characters (it stays then)");
        refuses("content 0", RefusedCallsTest::full, x -> x.tell(p -> p.content(0)), Paper.ELEMENT);
        refuses("content of a free one", RefusedCallsTest::full, x -> x.tell(p -> p.content(5)), Paper.ELEMENT);
        refuses("content of no dictionary", RefusedCallsTest::full, x -> x.tell(p -> p.content(1)), Paper.STATE);
        refuses("content with a 13th value", RefusedCallsTest::full, x -> x.tell(p -> p.content(7)), Paper.STATE);
        refuses("content with a newline", fullAnd(x -> x.type("\n")), x -> x.tell(p -> p.content(2)), Paper.ARGUMENT, "at");
        refuses("content of 13", fullAnd(x -> x.type(" ".repeat(6))), x -> x.tell(p -> p.content(2)), Paper.ARGUMENT, "at");
        refuses("content of 13 of one without", fullAnd(x -> x.type(" ".repeat(6))), x -> x.tell(p -> p.content(4)), Paper.ARGUMENT, "at");
    }

    private static void freeing() {
        Paper.says("NoSuchElementException as with content.");
        for (int number : new int[] {0, 10, 5, 9}) {
            refuses("free " + number, RefusedCallsTest::full, x -> x.free(number), Paper.ELEMENT);
            refuses("root " + number, RefusedCallsTest::full, x -> x.root(number), Paper.ELEMENT);
            refuses("go " + number, RefusedCallsTest::full, x -> x.go(number), Paper.ELEMENT);
        }
    }

    private static void savingWithoutRootOrTail() {
        Paper.says("IllegalStateException when there is no root, or (by adding) the file does not end as a file has to (TAIL)");
        Consumer<Paper> rootless = x -> {
            x.put(1, "<<>>");
            x.content(1, "abc");
            x.writeFile("startxref\n0\n%%EOF\n");
            x.go(1);
            x.type("[7]");
        };
        refuses("save anew without a root", rootless, x -> x.save(true), Paper.STATE);
        refuses("save by adding without a root", rootless, x -> x.save(false), Paper.STATE);
        refuses("save by adding without a tail", fullAnd(x -> x.cut(200)), x -> x.save(false), Paper.STATE);
    }

    private static void savingWithoutLength() {
        Paper.says("or the part Length of an object with contents that would be written does not resolve to the number of its characters");
        Consumer<Paper> mismatch = x -> {
            x.put(3, "1");
            x.put(1, "[2 0 R]");
            x.put(2, "<</Length 4 0 R>>");
            x.content(2, "abc");
            x.put(4, "3");
            x.root(1);
            x.save(true);
            x.put(4, "2");
            x.put(2, "<</Length 4 0 R>>");
            x.content(2, "abc");
            x.put(5, "5");
            x.go(1);
            x.into(0);
            x.type("[7]");
        };
        refuses("save anew", mismatch, x -> x.save(true), Paper.STATE);
        refuses("save by adding", mismatch, x -> x.save(false), Paper.STATE);
    }

    private static void savingTooMuch() {
        Paper.says("UnsupportedOperationException when the file would have more than 999 characters");
        String full = "[(123456789012)(123456789012)(123456789012)(123456789012)(123456789012)(123456789012)]";
        Consumer<Paper> large = x -> {
            x.put(9, "[1 0 R 2 0 R 3 0 R 4 0 R 5 0 R 6 0 R 7 0 R(123456789012)(123456789012)(123456789012)(123456789012)]");
            x.put(8, "8");
            x.root(9);
            x.save(true);
            x.put(8, "8");
            for (int number = 1; number <= 7; number++) {
                x.put(number, full);
            }
            x.go(3);
            x.into(5);
            x.type("[7]");
        };
        refuses("save anew", large, x -> x.save(true), Paper.UNSUPPORTED);
        refuses("save by adding", large, x -> x.save(false), Paper.UNSUPPORTED);
    }

    private static void loading() {
        Paper.says("IllegalArgumentException when it has a fault.");
        refuses("load with TAIL", fullAnd(x -> x.cut(100)), x -> x.loaded(), TAIL + " at 0", "at");
        refuses("load with TABLE", spoiled("1 9\n", '#'), x -> x.load(), Paper.ARGUMENT, "at", "fault");
        refuses("load with OBJECT", spoiled("3 1 obj", '#'), x -> x.load(), Paper.ARGUMENT, "at", "fault");
        refuses("load with OBJECT behind a value", spoiled("endobj\nxref", '#'), x -> x.load(), Paper.ARGUMENT, "at", "fault");
        refuses("load with LENGTH", spoiled("Length 6", 'l'), x -> x.load(), Paper.ARGUMENT, "at", "fault");
    }

    /** As full, but the first character of some words of the file is another one. */
    private static Consumer<Paper> spoiled(String words, char c) {
        String text = "%PAPER\n1 0 obj\n[2 0 R 3 1 R (a\\)b)]\nendobj\n2 0 obj\n<</a [1 2] /Length 6>>\nstream\nstream\nendstream\nendobj\n"
            + "3 1 obj\n/three\nendobj\nxref\n1 9\n";
        return fullAnd(x -> x.poke(text.indexOf(words), c));
    }

    private static void filesCharacters() {
        Paper.says("IndexOutOfBoundsException when i is not 0 .. its length; IllegalArgumentException when c is no character, or the file would have more than 999");
        refuses("poke -1", RefusedCallsTest::full, x -> x.poke(-1, 'x'), Paper.BOUNDS);
        refuses("poke 999", RefusedCallsTest::full, x -> x.poke(999, 'x'), Paper.BOUNDS);
        refuses("poke of no character", RefusedCallsTest::full, x -> x.poke(8, '\t'), Paper.ARGUMENT);
        refuses("cut -1", RefusedCallsTest::full, x -> x.cut(-1), Paper.BOUNDS);
        refuses("cut 999", RefusedCallsTest::full, x -> x.cut(999), Paper.BOUNDS);
        refuses("character -1", RefusedCallsTest::full, x -> x.character(-1), Paper.BOUNDS);
        refuses("character 999", RefusedCallsTest::full, x -> x.character(999), Paper.BOUNDS);
        refuses("state 0", RefusedCallsTest::full, x -> x.state(0), Paper.BOUNDS);
        refuses("state 10", RefusedCallsTest::full, x -> x.state(10), Paper.BOUNDS);
    }

    private static void cursors() {
        Paper.says("There is perhaps a CURSOR at a value.");
        refuses("into elsewhere", RefusedCallsTest::full, x -> x.into(0), Paper.STATE);
        refuses("into -1", fullAnd(x -> x.go(1)), x -> x.into(-1), Paper.BOUNDS);
        refuses("into 3", fullAnd(x -> x.go(1)), x -> x.into(3), Paper.BOUNDS);
        refuses("follow a cycle", fullAnd(x -> x.go(6)), x -> x.follow(), Paper.UNSUPPORTED);
        refuses("value 3", RefusedCallsTest::full, x -> x.value(3), Paper.ARGUMENT);
        Consumer<Paper> without = x -> {
            x.put(1, "[1]");
            x.root(1);
            x.save(true);
            x.type("[7]");
        };
        refuses("into without a cursor", without, x -> x.into(0), Paper.STATE);
        refuses("follow without a cursor", without, x -> x.follow(), Paper.STATE);
        refuses("value without a cursor", without, x -> x.value(0), Paper.STATE);
    }

    private static void order() {
        Paper.says("exceptions are looked at in the order of the throws clauses");
        Paper x = new Paper();
        full(x);
        generation9(x);
        x.type("\nand so on till it is long");
        Paper.due("put: no number, and a fault", x.put(10), Paper.BOUNDS);
        Paper.due("put: free with generation 9, and a fault", x.put(5), Paper.STATE);
        Paper.due("content: free, and a newline", x.tell(p -> p.content(5)), Paper.ELEMENT);
        Paper.due("content: no dictionary, and a newline", x.tell(p -> p.content(1)), Paper.STATE);
        Paper.due("content: a 13th value, and a newline", x.tell(p -> p.content(7)), Paper.STATE);
        Paper.due("poke: no place, and no character", x.poke(999, '\t'), Paper.BOUNDS);
        Paper.due("poke: -1, and no character", x.poke(-1, '\t'), Paper.BOUNDS);
        x.go(3);
        Paper.due("into: elsewhere, and no part", x.into(-1), Paper.STATE);
        x.put(9);
        Paper.due("into: no cursor, and no part", x.into(-1), Paper.STATE);
        x.put(9, "1");
        Paper.due("value: no cursor, and no such", x.value(3), Paper.STATE);
    }

    private static void orderOfSave() {
        Paper.says("exceptions are looked at in the order of the throws clauses");
        Paper x = SaveBoundsTest.fullFile(999);
        Paper.due("no tail, and too long", x.save(false), Paper.STATE);
        String full = "[(123456789012)(123456789012)(123456789012)(123456789012)(123456789012)(123456789012)]";
        Paper y = new Paper();
        for (int number = 1; number <= 9; number++) {
            y.put(number, full);
        }
        y.put(9, "[1 0 R 2 0 R 3 0 R 4 0 R 5 0 R 6 0 R 7 0 R 8 0 R (123456789012)(123456789012)(12)]");
        Paper.due("no root", y.save(true), Paper.STATE);
        y.root(9);
        Paper.due("too long", y.save(true), Paper.UNSUPPORTED);
        y.put(8, "<</Length 7 0 R/a(123456789012)/b(123456789012)/c(123456789012)/d(123456789012)>>");
        y.content(8, "abc");
        Paper.due("no Length, and too long", y.save(true), Paper.STATE);
    }

    private static void cursorIsGone() {
        Paper.says("It is gone after each put, content, free, save or load that does not throw.");
        gone("put of another", x -> x.put(9), Paper.OK);
        gone("put of its own", x -> x.put(1), Paper.OK);
        gone("content", x -> x.tell(p -> p.content(2)), Paper.OK);
        gone("free of another", x -> x.free(7), Paper.OK);
        gone("free of its own", x -> x.free(1), Paper.OK);
        gone("save anew", x -> "" + !x.save(true).equals(Paper.STATE), "true");
        gone("save by adding", x -> "" + !x.save(false).equals(Paper.STATE), "true");
        gone("load", x -> x.load(), "3");
    }

    private static void gone(String what, Function<Paper, String> call, String answer) {
        Paper x = new Paper();
        full(x);
        Paper.due("cursor before " + what, x.value(0), PaperObjects.STRING);
        Paper.due(what, call.apply(x), answer);
        Paper.due("cursor behind " + what, x.value(0), Paper.STATE);
        Paper.due("into behind " + what, x.into(0), Paper.STATE);
        Paper.due("follow behind " + what, x.follow(), Paper.STATE);
        Paper.due("printed behind " + what, x.printed(0), -1);
    }

    private static void cursorStays() {
        Paper.says("It is gone after each put, content, free, save or load that does not throw.");
        Paper x = new Paper();
        full(x);
        x.type("x");
        x.root(2);
        x.poke(0, '#');
        x.cut(9);
        x.state(1);
        x.reached();
        x.at();
        x.fault();
        x.size();
        x.character(0);
        Paper.due("behind all other calls", x.printed(), "(a\\)b)");
    }

    public static void main(String[] args) {
        views();
        typing();
        putting();
        contents();
        freeing();
        savingWithoutRootOrTail();
        savingWithoutLength();
        savingTooMuch();
        loading();
        filesCharacters();
        cursors();
        order();
        orderOfSave();
        cursorIsGone();
        cursorStays();
        Paper.end();
    }
}
