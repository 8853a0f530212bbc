/** Promises 4, 5, 6, 15 and 21: contents, freeing, the root, states and reached objects. */
public final class TableTest {
    private static void contentGivesALength(String before, String contents, String after) {
        Paper x = new Paper();
        x.put(2, before);
        Paper.due("content of " + before, x.content(2, contents), Paper.OK);
        Paper.due("value with contents", x.printedOf(2), after);
        Paper.due("the draft is empty", x.ask(p -> p.type(0)), 0);
    }

    private static void content() {
        contentGivesALength("<<>>", "abc", "<</Length 3>>");
        contentGivesALength("<<>>", "", "<</Length 0>>");
        contentGivesALength("<<>>", "123456789012", "<</Length 12>>");
        contentGivesALength("<</A [1 2]>>", "~ )", "<</A [1 2] /Length 3>>");
        contentGivesALength("<</Length 7 /A 1>>", "ab", "<</Length 2 /A 1>>");
        contentGivesALength("<</B 1/Length null/A 1>>", "ab", "<</B 1 /Length 2 /A 1>>");
        contentGivesALength("<</Length (abc)/A (d)>>", "ab", "<</Length 2 /A (d)>>");
        contentGivesALength("<</Length [1 [2 /C]]/A [3 <</B 1 0 R>> (xyz)]>>", "ab", "<</Length 2 /A [3 <</B 1 0 R>> (xyz)]>>");
        contentGivesALength("<</Length[1 2]/A 3 7 R/B-8/C[]>>", "ab", "<</Length 2 /A 3 7 R /B -8 /C []>>");
        contentGivesALength("<</Length 5 0 R>>", "ab", "<</Length 5 0 R>>");
        contentGivesALength("<</A <</Length 5 0 R>>>>", "ab", "<</A <</Length 5 0 R>> /Length 2>>");
        contentGivesALength("<</length 5>>", "ab", "<</length 5 /Length 2>>");
        contentGivesALength("<</A[1 2 3 4 5 6 7 8 9]>>", "ab", "<</A [1 2 3 4 5 6 7 8 9] /Length 2>>");
        contentGivesALength("<</Length[1 2 3 4 5 6 7 8 9 0]>>", "ab", "<</Length 2>>");
        contentGivesALength("<</A[1 2 3 4 5 6 7 8 9]/Length 5>>", "ab", "<</A [1 2 3 4 5 6 7 8 9] /Length 2>>");
    }

    private static void contentTwice() {
        Paper x = new Paper();
        x.put(2, "<<>>");
        x.content(2, "abc");
        x.content(2, "123456789012");
        Paper.due("contents are new", x.printedOf(2), "<</Length 12>>");
        x.root(2);
        x.save(true);
        String file = x.fileText();
        Paper.due("file", file.substring(7, file.indexOf("xref\n")),
            "2 0 obj\n<</Length 12>>\nstream\n123456789012\nendstream\nendobj\n");
    }

    private static void contentThrows() {
        Paper x = new Paper();
        x.put(1, "<<>>");
        x.put(2, "[]");
        x.put(3, "<</A[1 2 3 4 5 6 7 8 9 0]>>");
        x.put(4, "<</A[1 2 3 4 5 6 7 8]/Length 1 0 R>>");
        x.put(5, "1 0 R");
        x.type("1234567890123");
        for (int number : new int[] {0, 10, -1, 9, 6}) {
            Paper.due("content " + number, x.tell(p -> p.content(number)), Paper.ELEMENT);
        }
        Paper.due("of an array", x.tell(p -> p.content(2)), Paper.STATE);
        Paper.due("of a reference to a dictionary", x.tell(p -> p.content(5)), Paper.STATE);
        Paper.due("with a 13th value", x.tell(p -> p.content(3)), Paper.STATE);
        Paper.due("at", x.at(), -1);
        Paper.due("of 13 characters", x.tell(p -> p.content(1)), Paper.ARGUMENT);
        Paper.due("at", x.at(), 0);
        Paper.due("the draft stays", x.ask(p -> p.type(0)), 13);
        Paper.due("the value stays", x.printedOf(1), "<<>>");
        x.put(9);
        x.type("a\n");
        Paper.due("with a newline", x.tell(p -> p.content(1)), Paper.ARGUMENT);
        Paper.due("the draft stays", x.ask(p -> p.type(0)), 2);
        x.put(9);
        Paper.due("with a newline before", x.content(1, "\nab"), Paper.ARGUMENT);
        x.put(9);
        Paper.due("with a reference as Length", x.content(4, "a"), Paper.OK);
    }

    private static void contentChanges() {
        Paper x = new Paper();
        x.put(1, "<<>>");
        x.root(1);
        x.save(true);
        Paper.due("state", x.state(1), 1);
        x.content(1, "a\n");
        Paper.due("state behind a throw", x.state(1), 1);
        x.put(9);
        x.go(1);
        x.content(1, "a");
        Paper.due("state", x.state(1), 3);
        Paper.due("the cursor is gone", x.value(0), Paper.STATE);
    }

    private static void free() {
        Paper x = new Paper();
        for (int number : new int[] {0, 10, -1, 5, Integer.MAX_VALUE}) {
            Paper.due("free " + number, x.free(number), Paper.ELEMENT);
        }
        for (int generation = 1; generation <= 9; generation++) {
            x.put(5, "1");
            Paper.due("free 5", x.free(5), Paper.OK);
            Paper.due("generation", x.state(5), 4 * generation + 2);
        }
        Paper.due("free 5 again", x.free(5), Paper.ELEMENT);
        Paper.due("states", x.states(), "0 0 0 0 38 0 0 0 0");
        Paper.due("go to it", x.go(5), Paper.ELEMENT);
    }

    private static void root() {
        Paper x = new Paper();
        for (int number : new int[] {0, 10, -1, 5}) {
            Paper.due("root " + number, x.root(number), Paper.ELEMENT);
        }
        x.put(5, "[1]");
        x.free(5);
        Paper.due("root of a free one", x.root(5), Paper.ELEMENT);
        Paper.due("no root", x.save(true), Paper.STATE);
        x.put(5, "[1]");
        x.go(5);
        x.into(0);
        Paper.due("root 5", x.root(5), Paper.OK);
        Paper.due("the cursor stays", x.value(1), 1);
        x.save(true);
        String file = x.fileText();
        Paper.due("root with its generation", "" + file.contains("<</Root 5 1 R>>"), "true");
        x.put(3, "1");
        x.save(true);
        x.put(3, "1");
        x.root(3);
        Paper.due("nothing is changed by root", x.state(5), 5);
        Paper.due("root is now another one", x.reached(), 1);
    }

    private static void state() {
        Paper x = new Paper();
        Paper.due("state 0", x.state(0), Paper.BOUNDS);
        Paper.due("state 10", x.state(10), Paper.BOUNDS);
        Paper.due("state -1", x.state(-1), Paper.BOUNDS);
        x.put(1, "[9 1 R]");
        x.put(9, "1");
        x.free(9);
        x.put(9, "2");
        x.put(5, "3");
        x.root(1);
        Paper.due("states", x.states(), "3 0 0 0 3 0 0 0 7");
        x.save(true);
        Paper.due("states behind a save anew", x.states(), "1 0 0 0 4 0 0 0 5");
        x.free(9);
        x.put(5, "4");
        Paper.due("states", x.states(), "1 0 0 0 7 0 0 0 10");
        x.save(false);
        Paper.due("states behind a save by adding", x.states(), "1 0 0 0 5 0 0 0 8");
        x.put(1, "x");
        x.put(2, "5");
        Paper.due("states", x.states(), "1 3 0 0 5 0 0 0 8");
        x.load();
        Paper.due("states behind a load", x.states(), "1 0 0 0 5 0 0 0 8");
    }

    private static void reached() {
        Paper x = new Paper();
        x.put(1, "[2 0 R <</A [3 0 R]>>]");
        Paper.due("without a root", x.reached(), 0);
        x.root(1);
        Paper.due("nothing but the root", x.reached(), 1);
        x.put(2, "1 0 R");
        Paper.due("a circle", x.reached(), 2);
        x.put(3, "[9 0 R 9 0 R]");
        x.put(9, "8 0 R");
        x.put(8, "7 0 R");
        x.put(7, "6 1 R");
        x.put(6, "5 0 R");
        x.put(5, "1");
        Paper.due("a reference with another generation", x.reached(), 6);
        x.put(7, "6 0 R");
        Paper.due("a long chain", x.reached(), 8);
        x.put(5, "[4 0 R]");
        x.put(4, "4 0 R");
        Paper.due("all", x.reached(), 9);
        x.free(9);
        Paper.due("a chain that is broken", x.reached(), 3);
        x.put(9, "8 0 R");
        Paper.due("with another generation", x.reached(), 3);
        x.free(1);
        Paper.due("a root that means nothing", x.reached(), 0);
        x.put(1, "2");
        Paper.due("a root with another generation", x.reached(), 0);
        x.root(1);
        Paper.due("a new root", x.reached(), 1);
    }

    private static void reachedByLength() {
        Paper x = new Paper();
        x.put(1, "<</Length 2 0 R>>");
        x.put(2, "3 0 R");
        x.put(3, "1");
        x.content(1, "a");
        x.root(1);
        Paper.due("by Length too", x.reached(), 3);
        x.root(3);
        Paper.due("not backwards", x.reached(), 1);
    }

    private static void reachedAgainstTheNumbers() {
        Paper x = new Paper();
        for (int number = 2; number <= 9; number++) {
            x.put(number, (number - 1) + " 0 R");
        }
        x.put(1, "(end)");
        x.root(9);
        Paper.due("falling numbers", x.reached(), 9);
        for (int number = 1; number <= 8; number++) {
            x.put(number, (number + 1) + " 0 R");
        }
        x.put(9, "(end)");
        x.root(1);
        Paper.due("rising numbers", x.reached(), 9);
    }

    public static void main(String[] args) {
        content();
        contentTwice();
        contentThrows();
        contentChanges();
        free();
        root();
        state();
        reached();
        reachedByLength();
        reachedAgainstTheNumbers();
        Paper.end();
    }
}
