/** The table, the file and saving: a test for each sentence under "Terms" that names a boundary case of them. */
public final class SaveBoundsTest extends Checks {
    private static final String FREE = "000 0 f\n";

    /** The file that a table becomes when it is saved anew, up to its trailer. */
    private static String savedAnew(Paper x) {
        String answer = x.save(true);
        String text = x.fileText();
        Paper.due("the answer of save", answer, text.length());
        return text.substring(0, Math.max(0, text.indexOf("trailer\n")));
    }

    /** What a save by adding adds to a file. */
    private static String added(Paper x) {
        int before = Integer.parseInt(x.size());
        String answer = x.save(false);
        String text = x.fileTextFrom(before);
        Paper.due("the answer of save", answer, before + text.length());
        return text;
    }

    private static void freeAtFirst() {
        Paper.says("Each is FREE or IN USE and has a generation (free and 0 at first)");
        Paper x = new Paper();
        Paper.due("states", x.states(), "0 0 0 0 0 0 0 0 0");
        for (int number = 1; number <= 9; number++) {
            Paper.due("put " + number, x.put(number, "1"), Paper.OK);
        }
        Paper.due("states", x.states(), "3 3 3 3 3 3 3 3 3");
    }

    private static void contentsLimits() {
        Paper.says("perhaps CONTENTS, 0 to 12 characters 32 .. 126, if the value is a dictionary");
        Paper x = new Paper();
        x.put(1, "<<>>");
        Paper.due("none", x.content(1, ""), Paper.OK);
        Paper.due("twelve", x.content(1, " ~3456789012"), Paper.OK);
        x.root(1);
        String file = savedAnew(x);
        Paper.due("object", file.substring(7, file.indexOf("xref\n")),
            "1 0 obj\n<</Length 12>>\nstream\n ~3456789012\nendstream\nendobj\n");
        Paper.due("thirteen", x.content(1, "1234567890123"), Paper.ARGUMENT);
    }

    private static void contentsOfOthers() {
        Paper.says("perhaps CONTENTS, 0 to 12 characters 32 .. 126, if the value is a dictionary");
        for (String other : new String[] {"null", "true", "false", "1", "/a", "()", "[]", "[<<>>]", "1 0 R"}) {
            Paper x = new Paper();
            x.put(1, other);
            Paper.due("content of " + other, x.content(1, "a"), Paper.STATE);
        }
    }

    private static void whatIsMeant() {
        Paper.says("A reference MEANS the object with its number if that is in use and has its generation, otherwise nothing.");
        Paper x = new Paper();
        x.put(1, "[2 0 R 2 1 R 2 2 R]");
        String[] free = {"0", "0", "0"};
        String[] first = {"5", "0", "0"};
        String[] second = {"0", "5", "0"};
        kindsOfParts(x, "never used", free);
        x.put(2, "(a)");
        kindsOfParts(x, "generation 0", first);
        x.free(2);
        kindsOfParts(x, "free with generation 1", free);
        x.put(2, "(a)");
        kindsOfParts(x, "generation 1", second);
    }

    private static void kindsOfParts(Paper x, String when, String[] kinds) {
        for (int i = 0; i < kinds.length; i++) {
            x.go(1);
            x.into(i);
            Paper.due(when + ", part " + i, x.follow(), kinds[i]);
        }
    }

    private static void resolving() {
        Paper.says("while it is a reference, it becomes the value of the object that is meant, NULL if nothing is");
        Paper x = new Paper();
        for (int number = 1; number <= 8; number++) {
            x.put(number, (number + 1) + " 0 R");
        }
        x.go(1);
        Paper.due("nothing at the end", x.follow(), PaperObjects.NULL);
        x.put(9, "[1 0 R]");
        for (int number = 1; number <= 9; number++) {
            x.go(number);
            Paper.due("over " + (9 - number) + " references", x.follow(), PaperObjects.ARRAY);
        }
        x.into(0);
        Paper.due("over nine references", x.follow(), PaperObjects.ARRAY);
    }

    private static void cycles() {
        Paper.says("if an object is met a second time, it is a CYCLE");
        for (int length = 1; length <= 9; length++) {
            Paper x = new Paper();
            for (int number = 1; number <= 9; number++) {
                x.put(number, (number == length ? 1 : number % 9 + 1) + " 0 R");
            }
            x.go(1);
            Paper.due("a cycle of " + length, x.follow(), Paper.UNSUPPORTED);
            x.go(9);
            Paper.due("a way into a cycle of " + length, x.follow(), Paper.UNSUPPORTED);
            x.put(length, "1 1 R");
            x.go(1);
            Paper.due("no cycle with another generation", x.follow(), PaperObjects.NULL);
        }
    }

    private static void perhapsARoot() {
        Paper.says("There is perhaps a ROOT, a reference.");
        Paper x = new Paper();
        x.put(1, "1");
        Paper.due("none", x.save(true), Paper.STATE);
        x.root(1);
        x.free(1);
        Paper.due("one that means nothing", x.save(true), 130);
        x.put(1, "1");
        Paper.due("it has a generation", x.reached(), 0);
        x.root(1);
        Paper.due("now it has that", x.reached(), 1);
    }

    private static void reachedOnes() {
        Paper.says("The REACHED objects are the one that the root means, and those that references in values of reached ones mean.");
        Paper x = new Paper();
        x.put(1, "[<</a [2 0 R]>> 3 1 R 4 0 R 9 9 R 1 0 R]");
        x.put(2, "[1 0 R 2 0 R]");
        x.put(3, "5 0 R");
        x.put(5, "6 0 R");
        Paper.due("no root", x.reached(), 0);
        x.root(1);
        Paper.due("not by another generation", x.reached(), 2);
        x.put(4, "5 0 R");
        Paper.due("over several", x.reached(), 4);
        x.root(3);
        Paper.due("from another root", x.reached(), 2);
        x.free(3);
        Paper.due("a root that means nothing", x.reached(), 0);
    }

    private static void filesLimit() {
        Paper.says("The FILE is a text of at most 999 characters.");
        Paper x = fullFile(998);
        Paper.due("the last that fits", x.poke(998, 'x'), Paper.OK);
        Paper.due("size", x.size(), 999);
        Paper.due("one more", x.poke(999, 'x'), Paper.ARGUMENT);
        Paper.due("size", x.size(), 999);
    }

    /** An object whose file has so many characters, for which one by one there are not calls enough. */
    static Paper fullFile(int size) {
        Paper x = new Paper();
        x.put(1, "1");
        x.root(1);
        x.save(true);
        for (int i = 0; i < 14; i++) {
            x.save(false);
        }
        x.cut(Math.min(size, Integer.parseInt(x.size())));
        for (int i = Integer.parseInt(x.size()); i < size; i++) {
            x.poke(i, 'x');
        }
        return x;
    }

    private static void objectsText() {
        Paper.says("number, space, generation, \" obj\", newline, the value printed, newline");
        Paper x = new Paper();
        x.put(9, "1");
        x.free(9);
        x.put(9, "<<\n/a(\\()>>");
        x.root(9);
        Paper.due("file", savedAnew(x).substring(0, 35), "%PAPER\n9 1 obj\n<</a (\\()>>\nendobj\nx");
    }

    private static void objectsTextWithContents() {
        Paper.says("if it has contents: \"stream\", newline, the contents, newline, \"endstream\", newline; then \"endobj\", newline");
        Paper x = new Paper();
        x.put(1, "<<>>");
        x.content(1, "");
        x.root(1);
        String file = savedAnew(x);
        Paper.due("empty contents are contents", file.substring(0, file.indexOf("xref\n")),
            "%PAPER\n1 0 obj\n<</Length 0>>\nstream\n\nendstream\nendobj\n");
        x.put(1, "<</Length 0>>");
        Paper.due("no contents", savedAnew(x).substring(0, 37), "%PAPER\n1 0 obj\n<</Length 0>>\nendobj\nx");
    }

    private static void runs() {
        Paper.says("for each longest run of following numbers: its first number, space, how many, newline");
        runsOf("1", "1 1");
        runsOf("9", "9 1");
        runsOf("12", "1 2");
        runsOf("89", "8 2");
        runsOf("13579", "1 1,3 1,5 1,7 1,9 1");
        runsOf("2468", "2 1,4 1,6 1,8 1");
        runsOf("1289", "1 2,8 2");
        runsOf("12345678", "1 8");
        runsOf("23456789", "2 8");
        runsOf("123456789", "1 9");
        runsOf("1245679", "1 2,4 4,9 1");
    }

    private static void runsOf(String changed, String heads) {
        Paper x = new Paper();
        x.writeFile("startxref\n0\n%%EOF\n");
        x.put(1, "1");
        x.root(1);
        x.save(false);
        for (char number : changed.toCharArray()) {
            x.put(number - '0', "1");
        }
        String text = added(x);
        StringBuilder found = new StringBuilder();
        for (String line : text.substring(text.indexOf("xref\n"), text.indexOf("trailer\n")).split("\n")) {
            if (line.length() == 3) {
                found.append(found.length() == 0 ? "" : ",").append(line);
            }
        }
        Paper.due("runs of " + changed, found.toString(), heads);
    }

    private static void entriesOfFreeOnes() {
        Paper.says("three digits, for one in use those of the place in the file where its text begins, else 000");
        Paper x = new Paper();
        x.put(1, "[2 0 R 3 0 R]");
        x.put(2, "[(123456789012)(123456789012)(123456789012)(123456789012)]");
        x.put(3, "3");
        x.root(1);
        Paper.due("places of one, two and three digits", savedAnew(x).substring(130),
            "xref\n1 9\n007 0 n\n036 0 n\n113 0 n\n" + FREE.repeat(6));
        x.put(3, "4");
        x.free(3);
        x.free(2);
        Paper.due("free ones that had places", added(x).substring(0, 25), "xref\n2 2\n000 1 f\n000 1 f\n");
    }

    private static void farEntries() {
        Paper.says("three digits, for one in use those of the place in the file where its text begins, else 000");
        for (int size = 196; size <= 204; size++) {
            Paper x = new Paper();
            x.put(1, "1");
            x.root(1);
            x.writeFile("x".repeat(size - 18) + "startxref\n7\n%%EOF\n");
            String entry = added(x).substring(26, 34);
            Paper.due("a text at " + size, entry, size + " 0 n\n");
        }
        Paper y = fullFile(904);
        String tail = "startxref\n24\n%%EOF\n";
        y.cut(904 - tail.length());
        for (int i = 0; i < tail.length(); i++) {
            y.poke(904 - tail.length() + i, tail.charAt(i));
        }
        y.put(2, "2");
        Paper.due("a text at 904", added(y).substring(26, 34), "904 0 n\n");
    }

    private static void placeOfTheTable() {
        Paper.says("the place at which \"xref\" begins, in digits without 0 in front (0 itself is 0)");
        Paper x = new Paper();
        x.put(1, "1");
        x.root(1);
        x.free(1);
        x.save(true);
        Paper.due("one digit", end(x, 18), "startxref\n7\n%%EOF\n");
        x.put(1, "1");
        x.root(1);
        x.save(true);
        Paper.due("two digits", end(x, 19), "startxref\n24\n%%EOF\n");
        x.save(false);
        Paper.due("three digits", end(x, 20), "startxref\n148\n%%EOF\n");
    }

    private static String end(Paper x, int count) {
        return x.fileTextFrom(Integer.parseInt(x.size()) - count);
    }

    private static void notReachedBecomeFree() {
        Paper.says("objects that are not reached become free (their generations grow by 1 as by free)");
        Paper x = new Paper();
        x.writeFile("1 0 obj\n5\nendobj\n2 8 obj\n5\nendobj\n3 9 obj\n5\nendobj\n"
            + "xref\n1 6\n000 0 n\n017 8 n\n034 9 n\n000 0 f\n000 8 f\n000 9 f\ntrailer\n<</Root 1 0 R>>\nstartxref\n51\n%%EOF\n");
        Paper.due("load", x.load(), 3);
        Paper.due("states", x.states(), "1 33 37 0 32 36 0 0 0");
        Paper.due("file", savedAnew(x).substring(24), "xref\n1 9\n007 0 n\n000 9 f\n000 9 f\n" + FREE + "000 8 f\n000 9 f\n" + FREE.repeat(3));
        Paper.due("8 grows, 9 stays, free ones stay", x.states(), "1 36 36 0 32 36 0 0 0");
        x.put(9, "9");
        x.root(9);
        x.save(true);
        Paper.due("the first and all but the last", x.states(), "4 36 36 0 32 36 0 0 1");
    }

    private static void anewWithoutReached() {
        Paper.says("The file is \"%PAPER\", newline, the texts of all objects in use, by rising numbers, and the table's text for 1 .. 9 with the dictionary of the key Root and the root.");
        Paper x = new Paper();
        x.put(5, "5");
        x.put(9, "9");
        x.root(9);
        x.free(9);
        x.save(true);
        Paper.due("no object in use", x.fileText(), "%PAPER\nxref\n1 9\n" + FREE.repeat(4) + "000 1 f\n" + FREE.repeat(3) + "000 1 f\n"
            + "trailer\n<</Root 9 0 R>>\nstartxref\n7\n%%EOF\n");
    }

    private static void anewWithAll() {
        Paper.says("The file is \"%PAPER\", newline, the texts of all objects in use, by rising numbers, and the table's text for 1 .. 9 with the dictionary of the key Root and the root.");
        Paper x = new Paper();
        x.put(9, "[1 0 R 2 0 R 3 0 R 4 0 R 5 0 R 6 0 R 7 0 R 8 0 R]");
        StringBuilder objects = new StringBuilder("%PAPER\n");
        StringBuilder entries = new StringBuilder();
        for (int number = 8; number >= 1; number--) {
            x.put(number, "" + number);
        }
        for (int number = 1; number <= 9; number++) {
            entries.append(String.format("%03d 0 n\n", objects.length()));
            objects.append(number).append(" 0 obj\n");
            objects.append(number < 9 ? "" + number : "[1 0 R 2 0 R 3 0 R 4 0 R 5 0 R 6 0 R 7 0 R 8 0 R]").append("\nendobj\n");
        }
        x.root(9);
        x.save(true);
        Paper.due("all nine", x.fileText(), objects + "xref\n1 9\n" + entries + "trailer\n<</Root 9 0 R>>\nstartxref\n" + objects.length() + "\n%%EOF\n");
    }

    private static void changedOnes() {
        Paper.says("those objects in use that were CHANGED (by put, content or free) since the table and the file last were alike (after save or load), by rising numbers");
        Paper x = new Paper();
        x.put(1, "[2 0 R 3 0 R 4 0 R]");
        x.put(2, "<<>>");
        x.put(3, "3");
        x.put(4, "4");
        x.root(1);
        x.save(true);
        x.free(4);
        x.content(2, "ab");
        x.put(4, "5");
        x.free(3);
        x.root(2);
        String text = added(x);
        Paper.due("added", text.substring(0, text.indexOf("xref\n")),
            "2 0 obj\n<</Length 2>>\nstream\nab\nendstream\nendobj\n4 1 obj\n5\nendobj\n");
        Paper.due("states", x.states(), "1 1 4 5 0 0 0 0 0");
    }

    private static void changedAgainstAFileOfBefore() {
        Paper.says("since the table and the file last were alike (after save or load)");
        Paper x = new Paper();
        x.put(1, "1");
        x.root(1);
        x.save(true);
        x.put(2, "2");
        x.save(false);
        x.put(3, "3");
        x.load();
        x.put(4, "4");
        Paper.due("states", x.states(), "1 1 0 3 0 0 0 0 0");
        Paper.due("added", added(x).substring(0, 34), "4 0 obj\n4\nendobj\nxref\n4 1\n235 0 n\n");
    }

    private static void nothingChanged() {
        Paper.says("the table's text for the changed numbers (none: without runs)");
        Paper x = new Paper();
        x.put(1, "1");
        x.root(1);
        x.save(true);
        Paper.due("added", added(x), "xref\ntrailer\n<</Root 1 0 R /Prev 24>>\nstartxref\n148\n%%EOF\n");
    }

    private static void prevIsTheNumberBefore() {
        Paper.says("Prev and the number at the file's end before (behind its last \"startxref\" and newline)");
        for (String number : new String[] {"0", "7", "007", "12", "012", "999", "000", "100"}) {
            Paper x = new Paper();
            x.put(1, "1");
            x.root(1);
            x.writeFile("startxref\n5\n%%EOF\nstartxref\n" + number + "\n%%EOF\n");
            String text = added(x);
            Paper.due("Prev of " + number, text.substring(text.indexOf("trailer\n"), text.indexOf("startxref\n")),
                "trailer\n<</Root 1 0 R /Prev " + Integer.parseInt(number) + ">>\n");
        }
    }

    public static void main(String[] args) {
        freeAtFirst();
        contentsLimits();
        contentsOfOthers();
        whatIsMeant();
        resolving();
        cycles();
        perhapsARoot();
        reachedOnes();
        filesLimit();
        objectsText();
        objectsTextWithContents();
        runs();
        entriesOfFreeOnes();
        farEntries();
        placeOfTheTable();
        notReachedBecomeFree();
        anewWithoutReached();
        anewWithAll();
        changedOnes();
        changedAgainstAFileOfBefore();
        nothingChanged();
        prevIsTheNumberBefore();
        Paper.end();
    }
}
