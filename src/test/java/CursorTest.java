/** Promises 16 to 20: the cursor, its values, and how long it stays. */
public final class CursorTest {
    private static Paper withTree() {
        Paper x = new Paper();
        x.put(1, "<</A [1 -20 (a\\)b)] /B 2 0 R /C null/D/nAme/E[]/F 3 7 R>>");
        return x;
    }

    private static void go() {
        Paper x = withTree();
        for (int number : new int[] {0, 10, -1, 2, Integer.MIN_VALUE}) {
            Paper.due("go " + number, x.go(number), Paper.ELEMENT);
        }
        Paper.due("no cursor yet", x.value(0), Paper.STATE);
        Paper.due("go 1", x.go(1), PaperObjects.DICTIONARY);
        Paper.due("go 2", x.go(2), Paper.ELEMENT);
        Paper.due("the cursor stays", x.value(0), PaperObjects.DICTIONARY);
        String[] texts = {"null", "true", "false", "7", "/A", "()", "[]", "<<>>", "1 0 R"};
        for (int kind = 0; kind < texts.length; kind++) {
            x.put(3, texts[kind]);
            Paper.due("go to " + texts[kind], x.go(3), kind);
            Paper.due("value 0 of " + texts[kind], x.value(0), kind);
        }
    }

    private static void into() {
        Paper x = withTree();
        Paper.due("no cursor", x.into(0), Paper.STATE);
        x.go(1);
        Paper.due("into -1", x.into(-1), Paper.BOUNDS);
        Paper.due("into 6", x.into(6), Paper.BOUNDS);
        Paper.due("the cursor stays", x.value(1), 6);
        Paper.due("into 5", x.into(5), PaperObjects.REFERENCE);
        Paper.due("into a reference", x.into(0), Paper.STATE);
        x.go(1);
        Paper.due("into 0", x.into(0), PaperObjects.ARRAY);
        Paper.due("into 3", x.into(3), Paper.BOUNDS);
        Paper.due("into 2", x.into(2), PaperObjects.STRING);
        Paper.due("into a string", x.into(0), Paper.STATE);
        Paper.due("into a string, out of bounds", x.into(-1), Paper.STATE);
        Paper.due("printed", x.printed(), "(a\\)b)");
        x.go(1);
        Paper.due("into 3", x.into(3), PaperObjects.NAME);
        x.go(1);
        Paper.due("into 4", x.into(4), PaperObjects.ARRAY);
        Paper.due("into an empty array", x.into(0), Paper.BOUNDS);
        Paper.due("into of the greatest int", x.into(Integer.MAX_VALUE), Paper.BOUNDS);
    }

    private static void intoPartsOfParts() {
        Paper x = new Paper();
        x.put(1, "[[1 [2]] 3 <</A [4]/B 5>> 6]");
        String[] parts = {"[1 [2]]", "3", "<</A [4] /B 5>>", "6"};
        for (int i = 0; i < parts.length; i++) {
            x.go(1);
            x.into(i);
            Paper.due("part " + i, x.printed(), parts[i]);
        }
        x.go(1);
        x.into(2);
        Paper.due("part 2 1", x.into(1), PaperObjects.NUMBER);
        Paper.due("printed without its key", x.printed(), "5");
        x.go(1);
        x.into(0);
        x.into(1);
        Paper.due("how many", x.value(1), 1);
        Paper.due("depth", x.value(2), 2);
        x.into(0);
        Paper.due("printed", x.printed(), "2");
    }

    private static void follow() {
        Paper x = new Paper();
        Paper.due("no cursor", x.follow(), Paper.STATE);
        x.put(1, "[2 0 R 3 0 R 9 9 R 5 (a)]");
        x.put(2, "3 0 R");
        x.put(3, "[7]");
        x.go(1);
        Paper.due("what is no reference", x.follow(), PaperObjects.ARRAY);
        Paper.due("stays there", x.value(1), 5);
        x.into(3);
        Paper.due("a number", x.follow(), PaperObjects.NUMBER);
        x.go(1);
        x.into(0);
        Paper.due("over two references", x.follow(), PaperObjects.ARRAY);
        Paper.due("printed", x.printed(), "[7]");
        Paper.due("into what was found", x.into(0), PaperObjects.NUMBER);
        x.go(1);
        x.into(2);
        Paper.due("nothing is meant", x.follow(), PaperObjects.NULL);
        Paper.due("printed", x.printed(), "null");
        Paper.due("value 1", x.value(1), 0);
        Paper.due("value 2", x.value(2), 1);
        Paper.due("follow again", x.follow(), PaperObjects.NULL);
        x.free(3);
        x.go(2);
        Paper.due("a free one", x.follow(), PaperObjects.NULL);
        x.put(3, "1");
        x.go(2);
        Paper.due("another generation", x.follow(), PaperObjects.NULL);
        x.put(2, "3 1 R");
        x.go(2);
        Paper.due("its generation", x.follow(), PaperObjects.NUMBER);
    }

    private static void cycles() {
        Paper x = new Paper();
        x.put(1, "1 0 R");
        x.go(1);
        Paper.due("a reference to itself", x.follow(), Paper.UNSUPPORTED);
        Paper.due("the cursor stays", x.printed(), "1 0 R");
        x.put(2, "[2 0 R]");
        x.go(2);
        x.into(0);
        Paper.due("an array within itself is no cycle", x.follow(), PaperObjects.ARRAY);
        for (int number = 1; number <= 8; number++) {
            x.put(number, (number + 1) + " 0 R");
        }
        x.put(9, "1 0 R");
        for (int number = 1; number <= 9; number += 4) {
            x.go(number);
            Paper.due("a cycle of nine", x.follow(), Paper.UNSUPPORTED);
        }
        x.put(9, "9 0 R");
        x.go(1);
        Paper.due("a cycle at the end", x.follow(), Paper.UNSUPPORTED);
        x.put(9, "1 1 R");
        x.go(1);
        Paper.due("a chain of nine that ends with nothing", x.follow(), PaperObjects.NULL);
        x.put(9, "(x)");
        x.go(1);
        Paper.due("a chain of nine that ends with a value", x.follow(), PaperObjects.STRING);
        x.put(1, "[2 0 R]");
        x.put(9, "1 0 R");
        x.go(1);
        x.into(0);
        Paper.due("from a part and back to its array", x.follow(), PaperObjects.ARRAY);
        Paper.due("printed", x.printed(), "[2 0 R]");
    }

    private static void values(String text, int number, int depth) {
        Paper x = new Paper();
        x.put(1, text);
        x.go(1);
        Paper.due("value 1 of " + text, x.value(1), number);
        Paper.due("value 2 of " + text, x.value(2), depth);
    }

    private static void value() {
        Paper x = withTree();
        Paper.due("value 3 without a cursor", x.value(3), Paper.STATE);
        x.go(1);
        Paper.due("value 3", x.value(3), Paper.ARGUMENT);
        Paper.due("value -1", x.value(-1), Paper.ARGUMENT);
        values("null", 0, 1);
        values("true", 0, 1);
        values("false", 0, 1);
        values("-999999", -999999, 1);
        values("999999", 999999, 1);
        values("/aB3", 3, 1);
        values("/abcdef", 6, 1);
        values("()", 0, 1);
        values("(\\(\\)\\\\ 5678901)", 11, 1);
        values("[]", 0, 1);
        values("<<>>", 0, 1);
        values("[1]", 1, 2);
        values("[[] []]", 2, 2);
        values("[[1] 2 3]", 3, 3);
        values("[1 [2 [3] 4] []]", 3, 4);
        values("<</A [1 2 3] /B 1>>", 2, 3);
        values("[[[[[]]]]]", 1, 5);
        values("[[[[1 2]]]]", 1, 5);
        values("7 4 R", 7, 4);
        values("9 0 R", 9, 0);
    }

    private static void printed() {
        Paper x = withTree();
        Paper.due("no cursor", x.printed(0), -1);
        Paper.due("printed", x.printedOf(1), "<</A [1 -20 (a\\)b)] /B 2 0 R /C null /D /nAme /E [] /F 3 7 R>>");
        Paper.due("printed -1", x.printed(-1), -1);
        Paper.due("printed of the least int", x.printed(Integer.MIN_VALUE), -1);
        Paper.due("printed of the greatest int", x.printed(Integer.MAX_VALUE), -1);
        Paper.due("printed 0", x.printed(0), '<');
        x.put(2, "5");
        Paper.due("the cursor is gone", x.printed(0), -1);
    }

    private static void staysOrGoes(Paper x, String what, String answer, boolean stays) {
        Paper.due("cursor behind " + what + " -> " + answer, x.value(0), stays ? "7" : Paper.STATE);
        x.go(1);
    }

    private static void howLongItStays() {
        Paper x = new Paper();
        x.put(1, "<<>>");
        x.go(1);
        staysOrGoes(x, "put of no number", x.put(0, "x"), true);
        staysOrGoes(x, "put with a fault", x.put(1), true);
        staysOrGoes(x, "put", x.put(2, "1"), false);
        staysOrGoes(x, "content of no dictionary", x.content(2, ""), true);
        staysOrGoes(x, "content", x.content(1, "a"), false);
        staysOrGoes(x, "free of a free one", x.free(9), true);
        staysOrGoes(x, "free", x.free(2), false);
        staysOrGoes(x, "save without a root", x.save(true), true);
        staysOrGoes(x, "load of no file", x.load(), true);
        staysOrGoes(x, "root", x.root(1), true);
        staysOrGoes(x, "save by adding without a file", x.save(false), true);
        staysOrGoes(x, "save anew", x.save(true), false);
        staysOrGoes(x, "save by adding", x.save(false), false);
        staysOrGoes(x, "poke", x.poke(0, '%'), true);
        staysOrGoes(x, "load", x.load(), false);
        staysOrGoes(x, "cut", x.cut(0), true);
        staysOrGoes(x, "type", x.type("abc"), true);
        staysOrGoes(x, "into", x.into(7), true);
        staysOrGoes(x, "state", x.state(1), true);
        staysOrGoes(x, "reached", x.reached(), true);
    }

    public static void main(String[] args) {
        go();
        into();
        intoPartsOfParts();
        follow();
        cycles();
        value();
        printed();
        howLongItStays();
        Paper.end();
    }
}
