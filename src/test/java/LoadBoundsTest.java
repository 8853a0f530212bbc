/** Loading: a test for each sentence under "Terms" that names a fault of a file, its place, or an edge of what has none. */
public final class LoadBoundsTest extends Checks {
    private static final String ONE = "1 0 obj\n5\nendobj\n";
    private static final String ROOT = "trailer\n<</Root 1 0 R>>\n";
    private static final String STREAM = "\nstream\nabc\nendstream\nendobj\n";

    /** A file of object 1 and a table at 17. */
    private static String withTable(String table) {
        return ONE + table + "startxref\n17\n%%EOF\n";
    }

    private static String withRuns(String runs) {
        return withTable("xref\n" + runs + ROOT);
    }

    private static String withTrailer(String trailer) {
        return withTable("xref\n1 1\n000 0 n\ntrailer\n" + trailer);
    }

    private static void tail() {
        Paper.says("at its end stands \"startxref\", newline, one to three digits, newline, \"%%EOF\", newline, else TAIL, at 0");
        String table = "xref\n" + ROOT + "startxref\n";
        loads(table + "0\n%%EOF\n", "0");
        loads(table + "00\n%%EOF\n", "0");
        loads(table + "000\n%%EOF\n", "0");
        for (String end : new String[] {"", "\n", "0", "0\n", "0\n%%EOF", "\n%%EOF\n", "0000\n%%EOF\n", "0\n%%EOF\n\n", "0\n%%EOF\n ",
            "-0\n%%EOF\n", "a\n%%EOF\n", "0a\n%%EOF\n", " 0\n%%EOF\n", "0 \n%%EOF\n", "0\n\n%%EOF\n", "0\n%EOF\n", "0\n%%EoF\n", "\n0\n%%EOF\n"}) {
            faultIn(table + end, TAIL, 0);
        }
        faultIn("", TAIL, 0);
        faultIn("\n0\n%%EOF\n", TAIL, 0);
        faultIn("startxref 0\n%%EOF\n", TAIL, 0);
        faultIn("startxre\n0\n%%EOF\n", TAIL, 0);
        faultIn("tartxref\n0\n%%EOF\n", TAIL, 0);
    }

    private static void shortestFile() {
        Paper.says("at its end stands \"startxref\", newline, one to three digits, newline, \"%%EOF\", newline, else TAIL, at 0");
        faultIn("startxref\n0\n%%EOF\n", TABLE, 0);
        faultIn("startxref\n5\n%%EOF\n", TABLE, 5);
        faultIn("tartxref\n0\n%%EOF\n", TAIL, 0);
    }

    private static void headOfTables() {
        Paper.says("at p stands \"xref\" and newline");
        loads(withTable("xref\n" + ROOT), "0");
        for (String head : new String[] {"", "\n", "xref", "xref ", "xref \n", "xre\n", "Xref\n", "\nxref\n", " xref\n", "xref\n\n", "xref\n "}) {
            faultIn(withTable(head + ROOT), TABLE, 17);
        }
        faultIn(withRuns("").replace("\n17\n", "\n18\n"), TABLE, 18);
        faultIn(withRuns("").replace("\n17\n", "\n16\n"), TABLE, 16);
    }

    private static void anyNumberOfRuns() {
        Paper.says("then any number of times a digit 1 .. 9, space, another such digit, newline");
        loads(withRuns(""), "0");
        loads(withRuns("1 1\n000 0 n\n"), "1");
        Paper nine = loads(withRuns("9 1\n000 1 f\n8 1\n000 2 f\n7 1\n000 3 f\n6 1\n000 4 f\n5 1\n000 5 f\n4 1\n000 6 f\n3 1\n000 7 f\n2 1\n000 8 f\n1 1\n000 0 n\n"), "1");
        Paper.due("states", nine.states(), "1 32 28 24 20 16 12 8 4");
        loads(withRuns("2 1\n000 0 f\n".repeat(24) + "1 1\n000 0 n\n"), "1");
    }

    private static void headsOfRuns() {
        Paper.says("a digit 1 .. 9, space, another such digit, newline");
        for (String head : new String[] {"0 1\n", "1 0\n", "0 0\n", "1\n", "1 \n", " 1\n", "11\n", "1-1\n", "1  1\n", "1 1 \n", "1 1", "1 1\n\n", "01 1\n",
            "1 01\n", "10 1\n", "1 10\n", "a 1\n", "1 a\n", ": 1\n", "1 :\n", "/ 1\n", "1 /\n"}) {
            faultIn(withRuns(head + "000 0 n\n"), TABLE, 17);
        }
    }

    private static void countOfEntries() {
        Paper.says("and as many entries (any three digits, space, a digit, space, n or f, newline) as that says");
        String free = "000 0 f\n";
        for (int count = 1; count <= 9; count++) {
            loads(withRuns("1 " + count + "\n" + free.repeat(count)), "0");
            faultIn(withRuns("1 " + count + "\n" + free.repeat(count - 1)), TABLE, 17);
            faultIn(withRuns("1 " + count + "\n" + free.repeat(count + 1)), TABLE, 17);
        }
    }

    private static void entries() {
        Paper.says("(any three digits, space, a digit, space, n or f, newline)");
        Paper x = loads(withRuns("1 4\n000 0 n\n999 9 f\n017 5 f\n123 0 f\n"), "1");
        Paper.due("states", x.states(), "1 36 20 0 0 0 0 0 0");
        for (String entry : new String[] {"00 0 f\n", "0000 0 f\n", "0a0 0 f\n", "00: 0 f\n", "/00 0 f\n", "-00 0 f\n", " 00 0 f\n", "00  0 f\n", "000-0 f\n",
            "000\n0 f\n", "000 a f\n", "000 : f\n", "000 / f\n", "000 00 f\n", "000  f\n", "000 0-f\n", "000 0f\n", "000 0  f\n", "000 0 F\n", "000 0 N\n",
            "000 0 g\n", "000 0 \n", "000 0 nf\n", "000 0 f \n", "000 0 f", "\n"}) {
            faultIn(withRuns("1 2\n000 0 n\n" + entry), TABLE, 17);
        }
    }

    private static void lastNumber() {
        Paper.says("the last one's number being 9 or less");
        for (int first = 1; first <= 9; first++) {
            int most = 10 - first;
            loads(withRuns(first + " " + most + "\n" + "000 0 f\n".repeat(most)), "0");
            if (most < 9) {
                faultIn(withRuns(first + " " + (most + 1) + "\n" + "000 0 f\n".repeat(most + 1)), TABLE, 17);
            }
        }
        faultIn(withRuns("9 9\n" + "000 0 f\n".repeat(9)), TABLE, 17);
    }

    private static void trailers() {
        Paper.says("then \"trailer\", newline, a value that is a dictionary with a part Root that is a reference; else TABLE, at p");
        loads(withTrailer("<</Root 1 0 R>>"), "1");
        loads(withTrailer(" \n<</a 1/Root\n9\n9\nR>>(and more"), "1");
        loads(withTrailer("<</Root 1 0 R/a[1 2 3 4 5 6 7 8 9]>>\n"), "1");
        loads(withTrailer("<</Root 1 0 R/a[[[[]]]]>>\n"), "1");
        for (String value : new String[] {"", "null\n", "1 0 R\n", "[]\n", "[/Root 1 0 R]\n", "[<</Root 1 0 R>>]\n", "/Root\n", "(Root)\n", "<<>>\n", "<</root 1 0 R>>\n",
            "<</Root 1>>\n", "<</Root null>>\n", "<</Root (1 0 R)>>\n", "<</Root [1 0 R]>>\n", "<</Root <</Root 1 0 R>>>>\n", "<</a <</Root 1 0 R>>>>\n", "<</Root 0 0 R>>\n",
            "<</Root 1 10 R>>\n", "<</Root 1 0 R/Root 1 0 R>>\n", "<</Root 1 0 R\n", "<</Root 1 0 R>\n", "<</Root 1 0 R/a[1 2 3 4 5 6 7 8 9 0]>>\n",
            "<</Root 1 0 R/a[[[[1]]]]>>\n", "<</Root 1 0 R/b>>\n"}) {
            faultIn(withTrailer(value), TABLE, 17);
        }
        for (String word : new String[] {"", "trailer", "trailer ", "trailer \n", "Trailer\n", "\ntrailer\n", "railer\n"}) {
            faultIn(withTable("xref\n1 1\n000 0 n\n" + word + "<</Root 1 0 R>>\n"), TABLE, 17);
        }
    }

    private static void prevIsANumber() {
        Paper.says("if it has a part Prev, that is a number; the same is done there");
        for (String prev : new String[] {"null", "true", "/a", "(17)", "[17]", "<<>>", "1 0 R"}) {
            faultIn(withTrailer("<</Root 1 0 R/Prev " + prev + ">>\n"), TABLE, 17);
        }
        loads(withTrailer("<</Root 1 0 R/prev 3/a<</Prev 3>>>>\n"), "1");
    }

    /** A file of object 1, a table at 17 with a Prev, and another at the place that is the number at its end. */
    private static String chained(String runsAt17, String prevAt17, String runs, String prev) {
        String table = "xref\n" + runsAt17 + "trailer\n<</Root 2 2 R" + prevAt17 + ">>\n";
        return ONE + table + "xref\n" + runs + "trailer\n<</Root 1 0 R" + prev + ">>\nstartxref\n" + (17 + table.length()) + "\n%%EOF\n";
    }

    private static void sameDoneThere() {
        Paper.says("if it has a part Prev, that is a number; the same is done there");
        loads(chained("1 1\n000 0 n\n", "", "", "/Prev 17"), "1");
        loads(chained("1 1\n000 0 n\n", "", "", "/Prev 000017"), "1");
        loads(chained("1 1\n000 0 n\n", "", "", ""), "0");
        faultIn(chained("1 0\n", "", "", "/Prev 17"), TABLE, 17);
        faultIn(chained("", "/Prev null", "", "/Prev 17"), TABLE, 17);
        faultIn(chained("", "", "", "/Prev 16"), TABLE, 16);
        faultIn(chained("", "", "", "/Prev 0"), TABLE, 0);
    }

    private static void placesTwice() {
        Paper.says("If a place comes a second time, or is below 0 or not below the file's length: TABLE, at it.");
        faultIn(withTrailer("<</Root 1 0 R/Prev 17>>\n"), TABLE, 17);
        faultIn(chained("", "/Prev 17", "", "/Prev 17"), TABLE, 17);
        int last = chained("", "/Prev 50", "", "").lastIndexOf("xref\ntrailer");
        faultIn(chained("", "/Prev " + last, "", "/Prev 17"), TABLE, last);
        faultIn("xref\ntrailer\n<</Root 1 0 R/Prev 0>>\nstartxref\n0\n%%EOF\n", TABLE, 0);
    }

    private static void placesBelow0() {
        Paper.says("If a place comes a second time, or is below 0 or not below the file's length: TABLE, at it.");
        faultIn(withTrailer("<</Root 1 0 R/Prev -2>>\n"), TABLE, -2);
        faultIn(withTrailer("<</Root 1 0 R/Prev -1>>\n"), TABLE, -1);
        faultIn(withTrailer("<</Root 1 0 R/Prev -17>>\n"), TABLE, -17);
        faultIn(withTrailer("<</Root 1 0 R/Prev -999999>>\n"), TABLE, -999999);
        faultIn(withTrailer("<</Root 1 0 R/Prev -0>>\n"), TABLE, 0);
    }

    private static void placesBehindTheFile() {
        Paper.says("If a place comes a second time, or is below 0 or not below the file's length: TABLE, at it.");
        int length = withTrailer("<</Root 1 0 R/Prev 100>>\n").length();
        for (int place = length - 1; place <= length + 1; place++) {
            faultIn(withTrailer("<</Root 1 0 R/Prev " + place + ">>\n"), TABLE, place);
        }
        faultIn(withTrailer("<</Root 1 0 R/Prev 999999>>\n"), TABLE, 999999);
        faultIn("x".repeat(100) + "startxref\n120\n%%EOF\n", TABLE, 120);
        faultIn("x".repeat(100) + "startxref\n119\n%%EOF\n", TABLE, 119);
        faultIn("startxref\n999\n%%EOF\n", TABLE, 999);
    }

    private static void placesInTheLongestFile() {
        Paper.says("If a place comes a second time, or is below 0 or not below the file's length: TABLE, at it.");
        for (int place = 997; place <= 999; place++) {
            String tail = "startxref\n" + place + "\n%%EOF\n";
            Paper x = SaveBoundsTest.fullFile(999 - tail.length());
            for (int i = 0; i < tail.length(); i++) {
                x.poke(999 - tail.length() + i, tail.charAt(i));
            }
            Paper.due("size", x.size(), 999);
            Paper.due("load", x.loaded(), TABLE + " at " + place);
        }
    }

    private static void firstEntryCounts() {
        Paper.says("For each number the first entry that is met counts");
        Paper x = loads(withRuns("1 2\n000 0 n\n000 1 f\n2 2\n000 2 f\n000 3 f\n1 1\n999 4 n\n"), "1");
        Paper.due("within a table", x.states(), "1 4 12 0 0 0 0 0 0");
        x = loads(chained("1 3\n999 4 n\n000 5 f\n000 6 f\n", "", "1 2\n000 0 n\n000 7 f\n", "/Prev 17"), "1");
        Paper.due("of two tables", x.states(), "1 28 24 0 0 0 0 0 0");
        x = loads(chained("1 1\n000 0 n\n", "", "1 1\n000 3 f\n", "/Prev 17"), "0");
        Paper.due("a free one counts too", x.states(), "12 0 0 0 0 0 0 0 0");
    }

    private static void numbersWithoutEntry() {
        Paper.says("numbers without one are free with generation 0");
        Paper x = new Paper();
        for (int number = 1; number <= 9; number++) {
            x.put(number, "1");
            x.free(number);
            x.put(number, "2");
        }
        x.writeFile(withRuns("1 1\n000 0 n\n"));
        Paper.due("load", x.load(), 1);
        Paper.due("states", x.states(), "1 0 0 0 0 0 0 0 0");
        Paper.due("go 2", x.go(2), Paper.ELEMENT);
    }

    private static void anotherFile() {
        Paper.says("numbers without one are free with generation 0");
        Paper x = loads(new Sheet().object(1, 3, "<</Length 1>>\nstream\na\nendstream\nendobj\n").object(9, 4, "9\nendobj\n").end(), "2");
        x.put(1, "1");
        x.put(5, "5");
        x.writeFile("xref\n" + ROOT + "startxref\n0\n%%EOF\n");
        for (int i = 1; i <= 3; i++) {
            Paper.due("load " + i + " of a file without entries", x.load(), 0);
            Paper.due("states", x.states(), "0 0 0 0 0 0 0 0 0");
            x.put(1, "<</Length 1>>");
            x.put(7, "[]");
        }
        x.root(1);
        Paper.due("no contents of before", x.save(true), Paper.anewLength(29));
    }

    private static void anotherFileWithoutContents() {
        Paper.says("either \"endobj\" and newline, or \"stream\", newline");
        Paper x = loads(new Sheet().object(1, "<</Length 1>>\nstream\na\nendstream\nendobj\n").end(), "1");
        x.load();
        x.writeFile(new Sheet().object(1, "<</Length 1>>\nendobj\n").end());
        Paper.due("load of a file without contents", x.load(), 1);
        Paper.due("no contents of before", x.save(true), Paper.anewLength(29));
    }

    /** Texts at 0, where a program that lost its place might go on. */
    private static void decoysAt0() {
        Paper.says("else TABLE, at p");
        for (String decoy : new String[] {ROOT, "<</Root 1 0 R>>\n", "1 1\n000 0 f\n" + ROOT, "xref\n" + ROOT}) {
            for (String table : new String[] {"xre\n" + ROOT, "xref\n1 1\n000 0 x\n" + ROOT, "xref\n1 0\n" + ROOT, "xref\n9 2\n000 0 f\n000 0 f\n" + ROOT, "xref\ntrailer", "xref\n"}) {
                faultIn(decoy + table + "startxref\n" + decoy.length() + "\n%%EOF\n", TABLE, decoy.length());
            }
            faultIn(decoy + "startxref\n999\n%%EOF\n", TABLE, 999);
        }
    }

    private static void manyTables() {
        Paper.says("if it has a part Prev, that is a number; the same is done there");
        Paper x = new Paper();
        x.put(1, "[1]");
        x.root(1);
        x.save(true);
        int[] ends = new int[15];
        for (int i = 0; i < ends.length - 1; i++) {
            ends[i] = Integer.parseInt(x.size());
            x.save(false);
        }
        Paper.due("load over fifteen tables", x.loaded(), "1");
        // The Prev of a table becomes its own place, or that of a later table.
        for (int later = 2; later < ends.length - 1; later++) {
            String place = "" + ends[later];
            int digits = ends[2] + "xref\ntrailer\n<</Root 1 0 R /Prev ".length();
            for (int i = 0; i < 3; i++) {
                x.poke(digits + i, place.charAt(i));
            }
            Paper.due("a circle of tables from " + later, x.loaded(), TABLE + " at " + place);
        }
    }

    private static void headsOfObjects() {
        Paper.says("at the place of the entry stands number, space, generation (that of the entry), \" obj\", newline, a value, a newline");
        loads(new Sheet().object(1, 9, "5\nendobj\n").end(), "1");
        loads(withRuns("1 1\n000 0 n\n"), "1");
        for (String head : new String[] {"2 0 obj\n", "1 1 obj\n", "1-0 obj\n", "1 0-obj\n", "1 0 Obj\n", "1 0 obj \n", "1 0 obj ", "01 0 obj\n", "1 00 obj\n", " 1 0 obj\n",
            "1 0obj\n", "10 obj\n", "1  0 obj\n", ""}) {
            String object = head + "5\nendobj\n";
            faultIn(object + "xref\n1 1\n000 0 n\n" + ROOT + "startxref\n" + object.length() + "\n%%EOF\n", OBJECT, 0);
        }
        faultIn(withRuns("1 1\n001 0 n\n"), OBJECT, 1);
        faultIn(withRuns("1 1\n999 0 n\n"), OBJECT, 999);
        faultIn(withRuns("1 1\n000 1 n\n"), OBJECT, 0);
        faultIn(withRuns("2 1\n000 0 n\n"), OBJECT, 0);
        faultIn(withRuns("1 2\n000 0 n\n000 0 n\n"), OBJECT, 0);
        faultIn(withRuns("1 1\n000 0 n\n9 1\n020 0 n\n"), OBJECT, 20);
    }

    private static void valuesOfObjects() {
        Paper.says("at the place of the entry stands number, space, generation (that of the entry), \" obj\", newline, a value, a newline");
        String many = "[1 2 3 4 5 6 7 8 9 0 1]";
        for (String value : new String[] {"null", "\n \n5", "[\n1\n]", "1\n0\nR", many, "[[[[[]]]]]", "(123456789012)", "/abcdef", "-999999"}) {
            loads(new Sheet().object(1, value + "\nendobj\n").end(), "1");
        }
        for (String value : new String[] {"", "x", "[1", "[1 2 3 4 5 6 7 8 9 0 1 2]", "[[[[[1]]]]]", "(1234567890123)", "/abcdefg", "1000000", "<</a 1/a 2>>", "]",
            "5 ", "5\n", "5 6", "[]]", "1 0 R R", "(a\nb)"}) {
            faultIn(new Sheet().object(1, value + "\nendobj\n").end(), OBJECT, 1);
        }
        faultIn(new Sheet().object(1, "[]endobj\n").end(), OBJECT, 1);
    }

    private static void endsOfObjects() {
        Paper.says("either \"endobj\" and newline, or \"stream\", newline, L characters 32 .. 126, newline, \"endstream\", newline, \"endobj\", newline; else OBJECT, at the place");
        loads(new Sheet().object(1, "<</Length 3>>\nendobj\n").end(), "1");
        loads(new Sheet().object(1, "<</Length 3>>" + STREAM).end(), "1");
        Sheet last = new Sheet().object(1, "5\nendobj\n").object(9, "5\nendobj");
        faultIn(last.end(), OBJECT, last.place(9));
        for (String end : new String[] {"\nendobj", "\nendobj \n", "\nendob\n", "\nEndobj\n", "\n endobj\n", "\nstream \nabc\nendstream\nendobj\n", "\nStream\nabc\nendstream\nendobj\n",
            "\nstream\nabcendstream\nendobj\n", "\nstream\nabc\nendstream endobj\n", "\nstream\nabc\nendstream\nendobj", "\nstream\nabc\nendstream\n", "\nstream\nabc\nendobj\n",
            "\nstream\nabc\nendstream\nendob\n", "\nstream\nabc\n\nendstream\nendobj\n", "stream\nabc\nendstream\nendobj\n", "\nstreamabc\nendstream\nendobj\n", "\nstream\nabc\nEndstream\nendobj\n"}) {
            faultIn(new Sheet().object(1, "<</Length 3>>" + end).end(), OBJECT, 1);
        }
    }

    private static void charactersOfStreams() {
        Paper.says("L characters 32 .. 126");
        loads(new Sheet().object(1, "<</Length 3>>\nstream\n ~~\nendstream\nendobj\n").end(), "1");
        for (String contents : new String[] {"", "ab", "abcd", "a\nb", "\nab", "ab\n", "\n\n\n"}) {
            faultIn(new Sheet().object(1, "<</Length 3>>\nstream\n" + contents + "\nendstream\nendobj\n").end(), OBJECT, 1);
        }
    }

    private static void contentsAreTaken() {
        Paper.says("L characters 32 .. 126");
        for (String contents : new String[] {"", " ", "~ab", "endstream", "123456789012"}) {
            String object = "<</Length " + contents.length() + ">>\nstream\n" + contents + "\nendstream\nendobj\n";
            Paper x = loads(new Sheet().object(1, object).end(), "1");
            Paper.due("load again", x.load(), 1);
            Paper.due("load for the third time", x.load(), 1);
            x.save(true);
            String text = x.fileText();
            Paper.due("saved anew", text.substring(15, text.indexOf("xref\n")), object);
        }
    }

    private static void lengthsLimits() {
        Paper.says("L, 0 .. 12, is what the dictionary's part Length");
        loads(new Sheet().object(1, "<</Length 0>>\nstream\n\nendstream\nendobj\n").end(), "1");
        loads(new Sheet().object(1, "<</Length 12>>\nstream\n123456789012\nendstream\nendobj\n").end(), "1");
        faultIn(new Sheet().object(1, "<</Length 13>>\nstream\n1234567890123\nendstream\nendobj\n").end(), LENGTH, 1);
        faultIn(new Sheet().object(1, "<</Length -1>>\nstream\n\nendstream\nendobj\n").end(), LENGTH, 1);
        faultIn(new Sheet().object(1, "<</Length 999999>>\nstream\n\nendstream\nendobj\n").end(), LENGTH, 1);
        faultIn(new Sheet().object(1, "<</Length -999999>>\nstream\n").end(), LENGTH, 1);
        loads(new Sheet().object(1, "<</Length 13>>\nendobj\n").end(), "1");
        loads(new Sheet().object(1, "<</Length -1>>\nendobj\n").end(), "1");
    }

    private static void thereMustBeALength() {
        Paper.says("(there must be one; for a value that is no dictionary OBJECT is met)");
        for (String value : new String[] {"<<>>", "<</length 3>>", "<</a<</Length 3>>>>", "<</Lengt 3>>"}) {
            faultIn(new Sheet().object(1, value + STREAM).end(), LENGTH, 1);
        }
        for (String value : new String[] {"null", "3", "[]", "[<</Length 3>>]", "(Length)", "/Length", "2 0 R"}) {
            faultIn(new Sheet().object(1, value + STREAM).object(2, "<</Length 3>>\nendobj\n").end(), OBJECT, 1);
        }
    }

    private static void lengthsThatAreNone() {
        Paper.says("else (a cycle too) LENGTH, at the place");
        for (String length : new String[] {"null", "true", "false", "/a", "(abc)", "[3]", "<<>>", "1 0 R", "9 0 R", "2 0 R", "3 0 R", "4 1 R"}) {
            Sheet sheet = new Sheet().object(1, "<</Length " + length + ">>" + STREAM).object(2, "3 0 R\nendobj\n").object(3, "2 0 R\nendobj\n").object(4, "3\nendobj\n");
            faultIn(sheet.end(), LENGTH, 1);
        }
        Sheet own = new Sheet().object(1, "<</Length 2 0 R>>" + STREAM).object(2, "2 0 R\nendobj\n");
        faultIn(own.end(), LENGTH, 1);
        Sheet second = new Sheet().object(2, "<</Length 1 0 R>>" + STREAM).object(1, "13\nendobj\n");
        faultIn(second.end(), LENGTH, second.place(2));
    }

    private static void lengthsOfOtherObjects() {
        Paper.says("is when it is resolved (with the objects that the entries have in use, and the values at their places");
        loads(new Sheet().object(1, "<</Length 9 0 R>>" + STREAM).object(9, "3\nendobj\n").end(), "2");
        loads(new Sheet().object(9, "<</Length 1 0 R>>" + STREAM).object(1, "3\nendobj\n").end(), "2");
        loads(new Sheet().object(1, "<</Length 2 9 R>>" + STREAM).object(2, 9, "3\nendobj\n").end(), "2");
        Sheet chain = new Sheet().object(1, "<</Length 2 0 R>>" + STREAM);
        for (int number = 2; number <= 8; number++) {
            chain.object(number, (number + 1) + " 0 R\nendobj\n");
        }
        loads(chain.object(9, "3\nendobj\n").end(), "9");
        Sheet free = new Sheet().object(1, "<</Length 2 0 R>>" + STREAM).entry("2 1\n000 0 f\n").object(2, "3\nendobj\n");
        faultIn(free.end(), LENGTH, 1);
        Paper x = new Paper();
        x.put(2, "3");
        x.writeFile(new Sheet().object(1, "<</Length 2 0 R>>" + STREAM).end());
        Paper.due("an object of the table, not of the file", x.loaded(), LENGTH + " at 1");
    }

    private static void textsOfOtherObjects() {
        Paper.says("their texts must be as said up to the value, else OBJECT at the place of that one)");
        for (String value : new String[] {"", "x", "[3", "(3", "<</a", "[[[[[3]]]]]", "1234567"}) {
            Sheet spoiled = new Sheet().object(1, "<</Length 3 0 R>>" + STREAM).object(2, "y\nendobj\n").object(3, value + "\n");
            faultIn(spoiled.end(), OBJECT, spoiled.place(3));
        }
        Sheet chain = new Sheet().object(1, "<</Length 2 0 R>>" + STREAM).object(2, "3 0 R and more").object(3, "x\nendobj\n");
        faultIn(chain.end(), OBJECT, chain.place(3));
        faultIn(new Sheet().object(1, "<</Length 2 0 R>>" + STREAM).entry("2 1\n999 0 n\n").end(), OBJECT, 999);
        faultIn(new Sheet().object(1, "<</Length 2 0 R>>" + STREAM).entry("2 1\n000 0 n\n").end(), OBJECT, 0);
        faultIn(new Sheet().object(1, "<</Length 2 1 R>>" + STREAM).entry("2 1\n060 1 n\n").object(2, "3\nendobj\n").end(), OBJECT, 60);
    }

    private static void upToTheValueOnly() {
        Paper.says("their texts must be as said up to the value, else OBJECT at the place of that one)");
        Sheet behind = new Sheet().object(1, "<</Length 3 0 R>>" + STREAM).object(2, "y\nendobj\n").object(3, "3 and more\n");
        faultIn(behind.end(), OBJECT, behind.place(2));
        Sheet itself = new Sheet().object(1, "<</Length 3 0 R>>" + STREAM).object(2, "2\nendobj\n").object(3, "3 and more\n");
        faultIn(itself.end(), OBJECT, itself.place(3));
        Sheet notNeeded = new Sheet().object(1, "<</Length 3 0 R>>\nendobj\n").object(2, "y\nendobj\n").object(3, "z\nendobj\n");
        faultIn(notNeeded.end(), OBJECT, notNeeded.place(2));
    }

    private static void rootOfTheFirstTable() {
        Paper.says("The root is that of the first table.");
        Paper x = loads(chained("1 1\n000 0 n\n", "", "", "/Prev 17"), "1");
        Paper.due("the first that is met", x.reached(), 1);
        x.save(true);
        Paper.due("the root", "" + x.fileText().contains("<</Root 1 0 R>>"), "true");
        x = loads(withTrailer("<</Root 9 9 R>>\n"), "1");
        Paper.due("one that means nothing", x.reached(), 0);
        x.save(true);
        Paper.due("is a root too", "" + x.fileText().contains("<</Root 9 9 R>>"), "true");
    }

    private static void firstFault() {
        Paper.says("It has a fault, the first one that is met");
        String bad = "<</Length 13>>" + STREAM;
        faultIn(new Sheet().object(1, bad).object(2, "x\nendobj\n").end(), LENGTH, 1);
        Sheet falling = new Sheet().object(3, bad).object(2, "x\nendobj\n").object(1, "5\nendobj\n");
        faultIn(falling.end(), OBJECT, falling.place(2));
        String both = new Sheet().object(1, "x\nendobj\n").entry("1 0\n").end();
        faultIn(both, TABLE, both.indexOf("xref\n"));
        faultIn(both + "x", TAIL, 0);
        faultIn(chained("1 1\n999 0 n\n", "/Prev 400", "", "/Prev 17"), TABLE, 400);
        faultIn(chained("1 1\n999 0 n\n", "", "1 0\n", "/Prev 400"), TABLE, chained("1 1\n999 0 n\n", "", "1 0\n", "/Prev 400").lastIndexOf("xref\n1 0\n"));
    }

    private static void nothingIsChanged() {
        Paper.says("CHANGED is nothing after loading.");
        Paper x = new Paper();
        x.put(1, "1");
        x.put(2, "2");
        x.free(2);
        x.root(1);
        x.save(true);
        x.put(1, "2");
        x.put(3, "3");
        x.free(3);
        Paper.due("states", x.states(), "3 4 6 0 0 0 0 0 0");
        Paper.due("load", x.load(), 1);
        Paper.due("states", x.states(), "1 4 0 0 0 0 0 0 0");
    }

    public static void main(String[] args) {
        tail();
        shortestFile();
        headOfTables();
        anyNumberOfRuns();
        headsOfRuns();
        countOfEntries();
        entries();
        lastNumber();
        trailers();
        prevIsANumber();
        sameDoneThere();
        placesTwice();
        placesBelow0();
        placesBehindTheFile();
        placesInTheLongestFile();
        firstEntryCounts();
        numbersWithoutEntry();
        anotherFile();
        anotherFileWithoutContents();
        decoysAt0();
        manyTables();
        headsOfObjects();
        valuesOfObjects();
        endsOfObjects();
        charactersOfStreams();
        contentsAreTaken();
        lengthsLimits();
        thereMustBeALength();
        lengthsThatAreNone();
        lengthsOfOtherObjects();
        textsOfOtherObjects();
        upToTheValueOnly();
        rootOfTheFirstTable();
        firstFault();
        nothingIsChanged();
        Paper.end();
    }
}
