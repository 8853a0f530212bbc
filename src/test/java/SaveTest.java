/** Promise 7: saving anew and by adding. */
public final class SaveTest {
    private static final String FREE = "000 0 f\n";

    private static void anew() {
        Paper x = new Paper();
        x.put(2, "<</A 4 0 R/B( \\( )>>");
        x.content(2, "a (b) \\");
        x.put(4, " [ -007\n/N ] ");
        x.put(5, "(nobody)");
        x.root(2);
        String objects = "%PAPER\n"
            + "2 0 obj\n<</A 4 0 R /B ( \\( ) /Length 7>>\nstream\na (b) \\\nendstream\nendobj\n"
            + "4 0 obj\n[-7 /N]\nendobj\n";
        String file = objects + "xref\n1 9\n" + FREE + "007 0 n\n" + FREE
            + String.format("%03d 0 n\n", objects.indexOf("4 0 obj")) + "000 1 f\n" + FREE.repeat(4)
            + "trailer\n<</Root 2 0 R>>\nstartxref\n" + objects.length() + "\n%%EOF\n";
        Paper.due("save", x.save(true), file.length());
        Paper.due("file", x.fileText(), file);
        Paper.due("states", x.states(), "0 1 0 1 4 0 0 0 0");
        Paper.due("save again", x.save(true), file.length());
        Paper.due("load", x.load(), 2);
        Paper.due("states", x.states(), "0 1 0 1 4 0 0 0 0");
        Paper.due("value", x.printedOf(4), "[-7 /N]");
    }

    private static void emptyContents() {
        Paper x = new Paper();
        x.put(1, "<<>>");
        x.content(1, "");
        x.root(1);
        x.save(true);
        String file = x.fileText();
        Paper.due("file", file.substring(0, file.indexOf("xref\n")),
            "%PAPER\n1 0 obj\n<</Length 0>>\nstream\n\nendstream\nendobj\n");
        Paper.due("load", x.load(), 1);
        x.save(true);
        Paper.due("file again", x.fileText().substring(0, 60), file.substring(0, 60));
    }

    private static void byAdding() {
        Paper x = new Paper();
        x.put(1, "[1]");
        x.put(3, "3");
        x.put(4, "<<>>");
        x.root(1);
        x.put(1, "[3 0 R 4 0 R]");
        int before = Integer.parseInt(x.save(true));
        int table = "%PAPER\n1 0 obj\n[3 0 R 4 0 R]\nendobj\n3 0 obj\n3\nendobj\n4 0 obj\n<<>>\nendobj\n".length();
        x.content(4, "xyz");
        x.free(3);
        x.put(9, "null");
        x.put(8, "true");
        x.put(6, "/Six");
        x.free(6);
        x.root(4);
        String six = "4 0 obj\n<</Length 3>>\nstream\nxyz\nendstream\nendobj\n";
        String eight = "8 0 obj\ntrue\nendobj\n";
        String nine = "9 0 obj\nnull\nendobj\n";
        String added = six + eight + nine + "xref\n"
            + "3 2\n000 1 f\n" + before + " 0 n\n"
            + "6 1\n000 1 f\n"
            + "8 2\n" + (before + six.length()) + " 0 n\n" + (before + six.length() + eight.length()) + " 0 n\n"
            + "trailer\n<</Root 4 0 R /Prev " + table + ">>\nstartxref\n"
            + (before + six.length() + eight.length() + nine.length()) + "\n%%EOF\n";
        Paper.due("save", x.save(false), before + added.length());
        Paper.due("file", x.fileText().substring(before), added);
        Paper.due("states", x.states(), "1 0 4 1 0 4 0 1 1");
    }

    private static void nothingToAdd() {
        Paper x = new Paper();
        x.put(1, "1");
        x.root(1);
        Paper.due("save anew", x.save(true), 148);
        Paper.due("save by adding", x.save(false), 206);
        Paper.due("file", x.fileText().substring(148),
            "xref\ntrailer\n<</Root 1 0 R /Prev 24>>\nstartxref\n148\n%%EOF\n");
        Paper.due("save by adding", x.save(false), 265);
        Paper.due("load", x.load(), 1);
        Paper.due("save anew", x.save(true), 148);
    }

    private static void addingBehindAnyTail() {
        Paper x = new Paper();
        x.put(1, "1");
        x.root(1);
        x.writeFile("startxref\n007\n%%EOF\n");
        Paper.due("save by adding", x.save(false), 20 + 17 + 5 + 4 + 8 + 8 + 24 + 10 + 3 + 6);
        Paper.due("file", x.fileText(), "startxref\n007\n%%EOF\n1 0 obj\n1\nendobj\nxref\n1 1\n020 0 n\n"
            + "trailer\n<</Root 1 0 R /Prev 7>>\nstartxref\n37\n%%EOF\n");
        x.writeFile("startxref\n000\n%%EOF\n");
        x.save(false);
        Paper.due("file", x.fileText(), "startxref\n000\n%%EOF\nxref\ntrailer\n<</Root 1 0 R /Prev 0>>\nstartxref\n20\n%%EOF\n");
        for (String tail : new String[] {"", "startxref\n\n%%EOF\n", "startxref\n1234\n%%EOF\n", "startxref\n12\n%%EOF",
            "tartxref\n12\n%%EOF\n", "startxref\n1x\n%%EOF\n", "startxref\n12\n%EOF\n\n"}) {
            x.writeFile(tail);
            Paper.due("save by adding behind " + tail, x.save(false), Paper.STATE);
            Paper.due("size", x.size(), tail.length());
        }
        Paper.due("save anew without a tail", x.save(true), 148);
    }

    private static void rootThatMeansNothing() {
        Paper x = new Paper();
        x.put(1, "1");
        x.put(2, "2");
        x.root(1);
        x.free(1);
        Paper.due("save anew", x.save(true), 130);
        Paper.due("states", x.states(), "4 4 0 0 0 0 0 0 0");
        Paper.due("file", x.fileText(), "%PAPER\nxref\n1 9\n000 1 f\n000 1 f\n" + FREE.repeat(7)
            + "trailer\n<</Root 1 0 R>>\nstartxref\n7\n%%EOF\n");
        Paper.due("save by adding", x.save(false), 187);
        Paper.due("load", x.load(), 0);
    }

    private static void lastGenerationStays() {
        Paper x = new Paper();
        x.writeFile("1 9 obj\n5\nendobj\nxref\n1 2\n000 9 n\n000 9 f\ntrailer\n<</Root 2 9 R>>\nstartxref\n17\n%%EOF\n");
        Paper.due("load", x.load(), 1);
        Paper.due("states", x.states(), "37 36 0 0 0 0 0 0 0");
        Paper.due("save anew", x.save(true), 130);
        Paper.due("states", x.states(), "36 36 0 0 0 0 0 0 0");
        Paper.due("file", x.fileText().substring(0, 32), "%PAPER\nxref\n1 9\n000 9 f\n000 9 f\n");
    }

    private static void lengthsThatDoNotHold() {
        Paper x = new Paper();
        x.put(1, "<</Length 2 0 R>>");
        x.put(2, "3");
        x.content(1, "abc");
        x.root(1);
        Paper.due("it holds", x.save(true), Paper.anewLength(8 + 18 + 21 + 7 + 17));
        for (String other : new String[] {"4", "-3", "(abc)", "[3]", "null", "3 0 R", "2 0 R", "1 0 R"}) {
            x.put(2, other);
            Paper.due("adding, not written, " + other, x.state(1), 1);
            x.put(1, "<</Length 2 0 R>>");
            x.content(1, "abc");
            Paper.due("anew with " + other, x.save(true), Paper.STATE);
            Paper.due("by adding with " + other, x.save(false), Paper.STATE);
            Paper.due("changed still", x.state(1), 3);
            x.put(2, "3");
            x.save(true);
        }
        x.free(2);
        Paper.due("nothing is meant, but not written", x.save(false).equals(Paper.STATE) ? "throws" : "saves", "saves");
        Paper.due("nothing is meant, written anew", x.save(true), Paper.STATE);
        x.put(3, "3");
        x.root(3);
        Paper.due("written no more, since not reached", x.save(true).equals(Paper.STATE) ? "throws" : "saves", "saves");
        Paper.due("states", x.states(), "4 4 1 0 0 0 0 0 0");
    }

    private static void lengthOverManyReferences() {
        Paper x = new Paper();
        x.put(1, "<</Length 2 0 R>>");
        x.put(2, "9 0 R");
        x.put(9, "3 0 R");
        x.put(3, "2");
        x.content(1, "ab");
        x.root(1);
        Paper.due("save", x.save(true).equals(Paper.STATE) ? "throws" : "saves", "saves");
        Paper.due("load", x.load(), 4);
        x.put(3, "2 0 R");
        x.put(1, "<</Length 2 0 R>>");
        x.content(1, "ab");
        Paper.due("a cycle", x.save(true), Paper.STATE);
    }

    private static void pad(Paper x, int size) {
        String tail = "startxref\n123\n%%EOF\n";
        for (int i = Integer.parseInt(x.size()); i < size - tail.length(); i++) {
            x.poke(i, 'x');
        }
        for (int i = 0; i < tail.length(); i++) {
            x.poke(size - tail.length() + i, tail.charAt(i));
        }
    }

    private static void mostCharactersByAdding() {
        Paper x = new Paper();
        x.put(1, "1");
        x.root(1);
        x.save(true);
        for (int i = 0; i < 13; i++) {
            x.save(false);
        }
        Paper.due("size", x.size(), 148 + 58 + 12 * 59);
        x.cut(900);
        x.put(2, "2");
        x.free(2);
        x.go(1);
        pad(x, 940 - 12 + 1);
        Paper.due("save to 1000", x.save(false), Paper.UNSUPPORTED);
        Paper.due("size stays", x.size(), 929);
        Paper.due("state stays", x.state(2), 6);
        Paper.due("cursor stays", x.value(0), 3);
        Paper.due("the end stays", x.character(928), 10);
        x.cut(900);
        pad(x, 940 - 12);
        Paper.due("save to 999", x.save(false), 999);
        Paper.due("state", x.state(2), 4);
        Paper.due("the last character", x.character(998), 10);
        Paper.due("save again", x.save(false), Paper.UNSUPPORTED);
    }

    private static void mostCharactersAnew() {
        Paper x = new Paper();
        x.put(1, "[2 0 R 3 0 R 4 0 R 5 0 R 6 0 R 7 0 R 8 0 R 9 0 R]");
        for (int number = 2; number <= 8; number++) {
            x.put(number, "[(123456789012)(123456789012)(123456789012)(123456789012)(123456789012)(123456789012)]");
        }
        x.root(1);
        // An object's text is 16 longer than its value, which is 49 for the first and 91 for the next seven.
        int most = 16 + 49 + 7 * (16 + 91) + 16 + 37;
        Paper.due("with a value of 37 in the last", "" + Paper.anewLength(most), 999);
        x.put(9, "[(123456789012)(123456789012)123456]");
        x.go(1);
        Paper.due("save to 1000", x.save(true), Paper.UNSUPPORTED);
        Paper.due("size stays", x.size(), 0);
        Paper.due("states stay", x.states(), "3 3 3 3 3 3 3 3 3");
        Paper.due("the cursor stays", x.value(1), 8);
        x.put(9, "[(123456789012)(123456789012)12345]");
        Paper.due("save to 999", x.save(true), 999);
        Paper.due("states", x.states(), "1 1 1 1 1 1 1 1 1");
        Paper.due("load", x.load(), 9);
        x.put(9, "[(123456789012)(123456789012)123456]");
        x.put(1, "[2 0 R 3 0 R 4 0 R 5 0 R 6 0 R 7 0 R 8 0 R 9 1 R]");
        Paper.due("what is not reached takes no room", x.save(true), Paper.anewLength(most - 16 - 37));
    }

    private static void exceptionsOrder() {
        Paper x = new Paper();
        x.put(1, "[2 0 R 3 0 R 4 0 R 5 0 R 6 0 R 7 0 R 8 0 R 9 0 R]");
        for (int number = 2; number <= 8; number++) {
            x.put(number, "[(123456789012)(123456789012)(123456789012)(123456789012)(123456789012)(123456789012)]");
        }
        x.put(9, "<</Length 1 0 R/A(123456789012)/B(123456789012)/C(123456789012)/D(123456789012)>>");
        x.root(1);
        Paper.due("too long", x.save(true), Paper.UNSUPPORTED);
        x.content(9, "a");
        Paper.due("a wrong Length, and too long", x.save(true), Paper.STATE);
    }

    public static void main(String[] args) {
        anew();
        emptyContents();
        byAdding();
        nothingToAdd();
        addingBehindAnyTail();
        rootThatMeansNothing();
        lastGenerationStays();
        lengthsThatDoNotHold();
        lengthOverManyReferences();
        mostCharactersByAdding();
        mostCharactersAnew();
        exceptionsOrder();
        Paper.end();
    }
}
