/** Promises 8 and 10: loading files that others wrote, and their faults. */
public final class LoadTest extends Checks {
    private static final String ONE = "1 0 obj\n5\nendobj\n";
    private static final String ENTRY = "1 1\n000 0 n\n";
    private static final String ROOT = "trailer\n<</Root 1 0 R>>\n";

    private static void tails() {
        String head = ONE + "xref\n" + ENTRY + ROOT;
        loads(head + "startxref\n17\n%%EOF\n", "1");
        loads(head + "startxref\n017\n%%EOF\n", "1");
        loads(head + "xstartxref\n17\n%%EOF\n", "1");
        loads(head + "\n\n startxref\n999\n%%EOF\nstartxref\n17\n%%EOF\n", "1");
        faultIn("", TAIL, 0);
        faultIn("%%EOF\n", TAIL, 0);
        faultIn("\n%%EOF\n", TAIL, 0);
        for (String tail : new String[] {"startxref\n17\n%%EOF", "startxref\n17\n%%EOF\n\n", "startxref\n\n%%EOF\n",
            "startxref\n0017\n%%EOF\n", "startxref\n1 7\n%%EOF\n", "startxref\n-17\n%%EOF\n", "startxref\n17 \n%%EOF\n",
            "startxref 17\n%%EOF\n", "startxref17\n%%EOF\n", "Startxref\n17\n%%EOF\n", "startxref\n17%%EOF\n", "startxref\n17\n%%eof\n"}) {
            faultIn(head + tail, TAIL, 0);
        }
    }

    private static String withTable(String table) {
        return ONE + table + "startxref\n17\n%%EOF\n";
    }

    private static void tables() {
        loads(withTable("xref\n" + ENTRY + ROOT), "1");
        loads(withTable("xref\n" + ROOT), "0");
        loads(withTable("xref\n1 2\n000 0 n\n999 7 f\n9 1\n123 9 f\n" + ROOT), "1");
        loads(withTable("xref\n" + ENTRY + "trailer\n \n<< \n/A [1]/Root 1\n0 R>>"), "1");
        loads(withTable("xref\n" + ENTRY + "trailer\n<</Root 9 9 R>>>> and so on"), "1");
        String file = withTable("xref\n" + ENTRY + ROOT);
        loads("xref\n" + ROOT + "startxref\n0\n%%EOF\n", "0");
        faultIn(file.replace("xref\n17\n", "xref\n16\n"), TABLE, 16);
        faultIn(file.replace("xref\n17\n", "xref\n18\n"), TABLE, 18);
        faultIn(file.replace("xref\n17\n", "xref\n999\n"), TABLE, 999);
        faultIn(file.replace("xref\n17\n", "xref\n0\n"), TABLE, 0);
        int length = file.length();
        faultIn(file.replace("xref\n17\n", "xref\n" + length + "\n"), TABLE, length);
        faultIn(file.replace("xref\n17\n", "xref\n" + (length - 1) + "\n"), TABLE, length - 1);
        for (String table : new String[] {"xref \n" + ENTRY + ROOT, "Xref\n" + ENTRY + ROOT, "xref\n\n" + ENTRY + ROOT,
            "xref\n0 1\n000 0 n\n" + ROOT, "xref\n1 0\n" + ROOT, "xref\n1 2\n000 0 n\n" + ROOT, "xref\n1 1\n000 0 n\n000 0 f\n" + ROOT,
            "xref\n9 2\n000 0 f\n000 0 f\n" + ROOT, "xref\n1-1\n000 0 n\n" + ROOT, "xref\n1 1 000 0 n\n" + ROOT,
            "xref\n1 1\n00 0 n\n" + ROOT, "xref\n1 1\n0000 0 n\n" + ROOT, "xref\n1 1\n000 00 n\n" + ROOT, "xref\n1 1\n000 0 N\n" + ROOT,
            "xref\n1 1\n000 0 n \n" + ROOT, "xref\n1 1\n0x0 0 n\n" + ROOT, "xref\n1 1\n000-0 n\n" + ROOT, "xref\n1 1\n000 0-n\n" + ROOT,
            "xref\n1 1\n000 x n\n" + ROOT, "xref\n1 10\n000 0 n\n" + ROOT, "xref\n10 1\n000 0 n\n" + ROOT}) {
            faultIn(withTable(table), TABLE, 17);
        }
    }

    private static void trailers() {
        for (String trailer : new String[] {"", "trailer<</Root 1 0 R>>\n", "trailer \n<</Root 1 0 R>>\n", "Trailer\n<</Root 1 0 R>>\n",
            "trailer\n", "trailer\n[/Root 1 0 R]\n", "trailer\n1 0 R\n", "trailer\n<<>>\n", "trailer\n<</Root 1>>\n", "trailer\n<</Root null>>\n",
            "trailer\n<</Root [1 0 R]>>\n", "trailer\n<</root 1 0 R>>\n", "trailer\n<</A<</Root 1 0 R>>>>\n", "trailer\n<</Root 0 0 R>>\n",
            "trailer\n<</Root 1 0 R/Root 1 0 R>>\n", "trailer\n<</Root 1 0 R\n", "trailer\n[<</Root 1 0 R>>]\n",
            "trailer\n<</Root 1 0 R/Prev 1 0 R>>\n", "trailer\n<</Root 1 0 R/Prev null>>\n", "trailer\n<</Root 1 0 R/Prev/A>>\n"}) {
            faultIn(withTable("xref\n" + ENTRY + trailer), TABLE, 17);
        }
    }

    private static String chained(String first, String prevOfFirst, String second, String prevOfSecond) {
        String table = "xref\n" + first + "trailer\n<</Root 1 0 R" + prevOfFirst + ">>\n";
        return ONE + table + "xref\n" + second + "trailer\n<</Root 2 3 R" + prevOfSecond + ">>\nstartxref\n"
            + (17 + table.length()) + "\n%%EOF\n";
    }

    private static void chains() {
        Paper x = loads(chained("1 2\n000 0 n\n000 4 f\n", "", "2 2\n000 5 f\n000 6 f\n", "/Prev 17"), "1");
        Paper.due("the first entry that is met counts", x.states(), "1 20 24 0 0 0 0 0 0");
        x.save(false);
        Paper.due("the root of the first table", "" + x.fileText().contains("<</Root 2 3 R /Prev "), "true");
        x = loads(chained("1 1\n000 0 n\n", "", "1 1\n000 7 f\n", "/Prev 17"), "0");
        Paper.due("free by the later table", x.states(), "28 0 0 0 0 0 0 0 0");
        x = loads(withTable("xref\n1 1\n000 0 n\n1 2\n005 3 f\n006 2 f\n2 1\n007 8 n\n" + ROOT), "1");
        Paper.due("the first entry of one table counts", x.states(), "1 8 0 0 0 0 0 0 0");
        x = loads(chained("1 1\n000 0 n\n", "", "2 1\n000 5 f\n", ""), "0");
        Paper.due("without Prev", x.states(), "0 20 0 0 0 0 0 0 0");
        int first = 17;
        int second = chained("", "", "", "").lastIndexOf("xref\ntrailer");
        faultIn(chained("", "/Prev " + (second + 9), "", "/Prev 17"), TABLE, second + 9);
        faultIn(chained("", "/Prev 17", "", "/Prev 17"), TABLE, first);
        faultIn(chained("", "/Prev -1", "", "/Prev 17"), TABLE, -1);
        faultIn(chained("", "/Prev -999999", "", "/Prev 17"), TABLE, -999999);
        faultIn(chained("", "/Prev 999999", "", "/Prev 17"), TABLE, 999999);
        faultIn(chained("", "/Prev 0", "", "/Prev 17"), TABLE, 0);
        faultIn(chained("", "/Prev true", "", "/Prev 17"), TABLE, first);
        faultIn(chained("0 0\n", "", "", "/Prev 17"), TABLE, first);
        loads(chained("0 0\n", "", "", ""), "0");
        int own = chained("", "", "", "/Prev 41").lastIndexOf("xref\ntrailer");
        faultIn(chained("", "", "", "/Prev " + own), TABLE, own);
        // An object's fault comes behind all faults of tables.
        faultIn(chained("1 1\n001 0 n\n", "/Prev 400", "", "/Prev 17"), TABLE, 400);
        faultIn(chained("1 1\n001 0 n\n", "", "", "/Prev 17"), OBJECT, 1);
    }

    private static void objects() {
        Paper x = loads(new Sheet().object(1, "\n [1 \n2]\nendobj\n").object(5, 7, "(a)\nendobj\n").end(), "2");
        Paper.due("states", x.states(), "1 0 0 0 29 0 0 0 0");
        Paper.due("value", x.printedOf(1), "[1 2]");
        Paper.due("value", x.printedOf(5), "(a)");
        loads(new Sheet().object(1, "1 0 R\nendobj\n").end(), "1");
        for (String rest : new String[] {"5\nendobj", "5 \nendobj\n", "5endobj\n", "5\n\nendobj\n", "5\nendobj \n", "\nendobj\n", "x\nendobj\n",
            "5 6\nendobj\n", "[1\nendobj\n", "5\nstream\nabcde\nendstream\nendobj\n", "[1]\nstream\n\nendstream\nendobj\n", "5\nEndobj\n"}) {
            faultIn(new Sheet().object(1, rest).end(), OBJECT, 1);
        }
        faultIn(new Sheet().entry("1 1\n000 0 n\n").end(), OBJECT, 0);
        faultIn(new Sheet().entry("1 1\n999 0 n\n").end(), OBJECT, 999);
        faultIn(new Sheet().entry("2 1\n001 0 n\n").object(1, "5\nendobj\n").end(), OBJECT, 1);
        faultIn(new Sheet().entry("1 1\n001 1 n\n").object(1, "5\nendobj\n").end(), OBJECT, 1);
        faultIn(new Sheet().entry("1 1\n002 0 n\n").object(1, "5\nendobj\n").end(), OBJECT, 2);
        faultIn(new Sheet().object(1, "5\nendobj\n").end().replace(" obj", " Obj"), OBJECT, 1);
        faultIn(new Sheet().object(1, "5\nendobj\n").end().replace("1 0 obj\n5", "1 0 obj 5"), OBJECT, 1);
        faultIn(new Sheet().object(1, "5\nendobj\n").end().replace("1 0 obj", "1-0 obj"), OBJECT, 1);
        Sheet last = new Sheet().object(1, "5\nendobj\n").object(9, "5\nendob");
        faultIn(last.end(), OBJECT, last.place(9));
        Sheet later = new Sheet().object(2, "x\nendobj\n").object(1, "y\nendobj\n");
        faultIn(later.end(), OBJECT, later.place(1));
        loads(new Sheet().object(1, "5\nendobj\n").entry("2 1\n003 4 f\n").end(), "1");
        loads(new Sheet().object(1, "5\nendobj\n").entry("1 1\n999 4 n\n").end(), "1");
    }

    private static void streamIs(String dictionary, String stream, String contents) {
        Paper x = loads(new Sheet().object(1, dictionary + "\nstream\n" + stream + "\nendstream\nendobj\n").end(), "1");
        String written = "1 0 obj\n" + dictionary + "\nstream\n" + contents + "\nendstream\nendobj\n";
        x.save(true);
        StringBuilder got = new StringBuilder();
        for (int i = 7; i < 7 + written.length(); i++) {
            got.append((char) Integer.parseInt(x.character(i)));
        }
        Paper.due("written again", got.toString(), written);
    }

    private static void streams() {
        streamIs("<</Length 3>>", "abc", "abc");
        streamIs("<</Length 0>>", "", "");
        streamIs("<</Length 12>>", "12345678 ~()", "12345678 ~()");
        streamIs("<</Length 9>>", "endstream", "endstream");
        streamIs("<</A 1 /Length 1>>", "x", "x");
        loads(new Sheet().object(1, "<</Length 7 0 R>>\nendobj\n").end(), "1");
        for (String rest : new String[] {"<</Length 3>>\nstream\nab\nendstream\nendobj\n", "<</Length 3>>\nstream\nabcd\nendstream\nendobj\n",
            "<</Length 3>>\nstream\na\nb\nendstream\nendobj\n", "<</Length 3>>\nstream\nabc\nendobj\n", "<</Length 3>>\nstream\nabc\nendstream\n",
            "<</Length 3>>\nstream\nabcendstream\nendobj\n", "<</Length 3>>\nstream\nabc\nendstream\nEndobj\n", "<</Length 3>>\nstream abc\nendstream\nendobj\n",
            "<</Length 3>>stream\nabc\nendstream\nendobj\n", "<</Length 3>>\n stream\nabc\nendstream\nendobj\n", "<</Length 13>>\nStream\n",
            "<</Length 0>>\nstream\nendstream\nendobj\n"}) {
            faultIn(new Sheet().object(1, rest).end(), OBJECT, 1);
        }
        for (String rest : new String[] {"<<>>\nstream\n\nendstream\nendobj\n", "<</Length 13>>\nstream\n1234567890123\nendstream\nendobj\n",
            "<</Length -1>>\nstream\n\nendstream\nendobj\n", "<</Length (a)>>\nstream\na\nendstream\nendobj\n", "<</Length null>>\nstream\n\nendstream\nendobj\n",
            "<</Length [1]>>\nstream\na\nendstream\nendobj\n", "<</A<</Length 1>>>>\nstream\na\nendstream\nendobj\n", "<</Length -1>>\nstream\n",
            "<</Length 1 0 R>>\nstream\na\nendstream\nendobj\n", "<</Length 7 0 R>>\nstream\n\nendstream\nendobj\n"}) {
            faultIn(new Sheet().object(1, rest).end(), LENGTH, 1);
        }
    }

    private static final String STREAM = "\nstream\nabc\nendstream\nendobj\n";

    private static void lengthsOfOthers() {
        loads(new Sheet().object(1, "<</Length 2 0 R>>" + STREAM).object(2, "3\nendobj\n").end(), "2");
        loads(new Sheet().object(2, "<</Length 1 0 R>>" + STREAM).object(1, "3\nendobj\n").end(), "2");
        loads(new Sheet().object(1, "<</Length 2 0 R>>" + STREAM).object(2, "9 4 R\nendobj\n").object(9, 4, "3\nendobj\n").end(), "3");
        Sheet cycle = new Sheet().object(1, "<</Length 2 0 R>>" + STREAM).object(2, "3 0 R\nendobj\n").object(3, "2 0 R\nendobj\n");
        faultIn(cycle.end(), LENGTH, 1);
        Sheet other = new Sheet().object(1, "<</Length 2 1 R>>" + STREAM).object(2, "3\nendobj\n");
        faultIn(other.end(), LENGTH, 1);
        Sheet free = new Sheet().object(1, "<</Length 2 0 R>>" + STREAM).entry("2 1\n000 0 f\n").object(2, "3\nendobj\n");
        faultIn(free.end(), LENGTH, 1);
        Sheet spoiled = new Sheet().object(1, "<</Length 3 0 R>>" + STREAM).object(2, "x\nendobj\n").object(3, "y\nendobj\n");
        faultIn(spoiled.end(), OBJECT, spoiled.place(3));
        for (String value : new String[] {"[x", "(y", "(a\\b)", "/abcdefg", "<</A 1/A", "[[[[[1", "%"}) {
            Sheet begun = new Sheet().object(1, "<</Length 2 0 R>>" + STREAM).object(2, value + "\nendobj\n");
            faultIn(begun.end(), OBJECT, begun.place(2));
        }
        Sheet endless = new Sheet().object(1, "<</Length 3 0 R>>" + STREAM).object(2, "7\nendobj\n").object(3, "3 and\n");
        faultIn(endless.end(), OBJECT, endless.place(3));
        Sheet laterFault = new Sheet().object(1, "<</Length 3 0 R>>" + STREAM).object(2, "x\nendobj\n").object(3, "3 and\n");
        faultIn(laterFault.end(), OBJECT, laterFault.place(2));
        Sheet outside = new Sheet().object(1, "<</Length 2 0 R>>" + STREAM).entry("2 1\n900 0 n\n");
        faultIn(outside.end(), OBJECT, 900);
        Sheet wrongHead = new Sheet().object(1, "<</Length 2 0 R>>" + STREAM).entry("2 1\n001 0 n\n");
        faultIn(wrongHead.end(), OBJECT, 1);
        Sheet overSpoiled = new Sheet().object(1, "<</Length 2 0 R>>" + STREAM).object(2, "3 0 R\nendobj\n").object(3, "y\nendobj\n");
        faultIn(overSpoiled.end(), OBJECT, overSpoiled.place(3));
        Sheet second = new Sheet().object(1, "3\nendobj\n").object(2, "<</Length 4>>" + STREAM).object(3, "x");
        faultIn(second.end(), OBJECT, second.place(2));
        Sheet third = new Sheet().object(1, "3\nendobj\n").object(2, "<</Length 1 0 R>>" + STREAM).object(3, "<</Length 2 0 R>>" + STREAM);
        faultIn(third.end(), LENGTH, third.place(3));
    }

    private static void aFaultChangesNothing() {
        Paper x = new Paper();
        x.put(1, "<</A 2 0 R>>");
        x.content(1, "abc");
        x.put(2, "[1 2]");
        x.root(1);
        int size = Integer.parseInt(x.save(true));
        x.put(3, "3");
        x.go(2);
        x.type("12");
        x.cut(size - 1);
        Paper.due("load", x.loaded(), TAIL + " at 0");
        Paper.due("states stay", x.states(), "1 1 3 0 0 0 0 0 0");
        Paper.due("the cursor stays", x.printed(), "[1 2]");
        Paper.due("the draft stays", x.ask(p -> p.type(0)), 2);
        Paper.due("the file stays", x.size(), size - 1);
        Paper.due("the root stays", x.reached(), 2);
        x.poke(size - 1, '\n');
        Paper.due("load", x.loaded(), "2");
        Paper.due("the fault is told still", x.fault(), TAIL);
        Paper.due("its place is not", x.at(), -1);
        Paper.due("states", x.states(), "1 1 0 0 0 0 0 0 0");
        x.poke(7, '2');
        x.go(2);
        Paper.due("load", x.loaded(), OBJECT + " at 7");
        Paper.due("states stay", x.states(), "1 1 0 0 0 0 0 0 0");
        Paper.due("the cursor stays", x.printed(), "[1 2]");
        Paper.due("values stay", x.printedOf(1), "<</A 2 0 R /Length 3>>");
        x.poke(7, '1');
        x.load();
        Paper.due("the latest fault", x.fault(), OBJECT);
        x.put(4, "x");
        Paper.due("a put's fault is none of a file", x.fault(), OBJECT);
    }

    private static void loadTakesAllAway() {
        Paper x = new Paper();
        x.put(1, "1");
        x.root(1);
        x.save(true);
        x.put(2, "<<>>");
        x.content(2, "a");
        x.put(1, "[2 0 R]");
        x.put(7, "7");
        x.free(7);
        x.root(2);
        Paper.due("load", x.load(), 1);
        Paper.due("states", x.states(), "1 0 0 0 0 0 0 0 0");
        Paper.due("value", x.printedOf(1), "1");
        Paper.due("reached", x.reached(), 1);
        x.put(2, "<</Length 1>>");
        x.root(2);
        Paper.due("contents of before are gone", x.save(true), Paper.anewLength(8 + 14 + 7));
    }

    private static void severalLoads() {
        Paper x = new Paper();
        x.writeFile(new Sheet().object(1, "<</Length 2>>\nstream\nab\nendstream\nendobj\n").object(2, 3, "[7]\nendobj\n").end());
        Paper.due("load", x.load(), 2);
        x.put(2, "8");
        x.put(3, "9");
        Paper.due("load again", x.load(), 2);
        x.put(3, "9");
        Paper.due("load for the third time", x.load(), 2);
        Paper.due("states", x.states(), "1 13 0 0 0 0 0 0 0");
        Paper.due("value", x.printedOf(2), "[7]");
        String file = "1 0 obj\n5\nendobj\nxref\n1 1\n000 0 n\ntrailer\n<</Root 1 0 R>>\nstartxref\n17\n%%EOF\n";
        x.writeFile(file);
        for (int i = 0; i < 3; i++) {
            Paper.due("load of another file", x.load(), 1);
            Paper.due("states", x.states(), "1 0 0 0 0 0 0 0 0");
        }
        Paper.due("without contents", x.save(true), Paper.anewLength(17));
    }

    private static void contentsOfBefore() {
        Paper x = new Paper();
        x.put(1, "<<>>");
        x.content(1, "abc");
        x.root(1);
        x.save(true);
        String size = x.save(true);
        for (int i = 0; i < 3; i++) {
            Paper.due("load", x.load(), 1);
            Paper.due("save", x.save(true), size);
        }
        Paper.due("contents", x.fileText().substring(29, 53), "stream\nabc\nendstream\nend");
        x.poke(7, '2');
        Paper.due("an object that cannot be read any more", x.loaded(), OBJECT + " at 7");
    }

    private static void farPlaces() {
        Paper x = new Paper();
        x.put(1, "1");
        x.root(1);
        x.save(true);
        for (int i = 0; i < 14; i++) {
            x.save(false);
        }
        Paper.due("size", x.size(), 973);
        x.poke(963, '9');
        x.poke(964, '7');
        x.poke(965, '2');
        Paper.due("the last place of the file", x.loaded(), TABLE + " at 972");
        x.poke(965, '3');
        Paper.due("behind it", x.loaded(), TABLE + " at 973");
        x.poke(963, '9');
        x.poke(964, '1');
        x.poke(965, '4');
        Paper.due("over all tables", x.loaded(), "1");
    }

    private static void generationsOverSavesAndLoads() {
        Paper x = new Paper();
        x.put(1, "[2 1 R]");
        x.put(2, "0");
        x.free(2);
        x.put(2, "<<>>");
        x.content(2, "hello");
        x.root(1);
        x.save(true);
        x.put(3, "[1 0 R]");
        x.save(false);
        x.free(3);
        x.save(false);
        x.put(3, "(three)");
        x.save(false);
        Paper.due("load", x.load(), 3);
        Paper.due("states", x.states(), "1 5 5 0 0 0 0 0 0");
        Paper.due("value", x.printedOf(3), "(three)");
        Paper.due("value", x.printedOf(2), "<</Length 5>>");
        Paper.due("reached", x.reached(), 2);
    }

    public static void main(String[] args) {
        tails();
        tables();
        trailers();
        chains();
        objects();
        streams();
        lengthsOfOthers();
        aFaultChangesNothing();
        loadTakesAllAway();
        severalLoads();
        contentsOfBefore();
        farPlaces();
        generationsOverSavesAndLoads();
        Paper.end();
    }
}
