/** The promises 1 to 21: a test for each of their sentences that names a boundary case. */
public final class CallBoundsTest extends Checks {
    private static final int LEAST = Integer.MIN_VALUE;
    private static final int GREATEST = Integer.MAX_VALUE;
    private static final int[] NO_NUMBERS = {0, 10, -1, 11, 1 + (1 << 16), LEAST, LEAST + 1, GREATEST};

    private static Paper with(String... values) {
        Paper x = new Paper();
        for (int i = 0; i < values.length; i++) {
            Paper.due("put " + values[i], x.put(i + 1, values[i]), Paper.OK);
        }
        return x;
    }

    private static String draft(Paper x) {
        return x.ask(p -> p.type(0));
    }

    private static void newObject() {
        Paper.says("All objects are free with generation 0, there is no root, the draft and the file have no characters, nothing is changed.");
        Paper x = new Paper();
        Paper.due("states", x.states(), "0 0 0 0 0 0 0 0 0");
        Paper.due("no root", x.save(true), Paper.STATE);
        Paper.due("reached", x.reached(), 0);
        Paper.due("draft", draft(x), 0);
        Paper.due("file", x.size(), 0);
        Paper.due("put of the empty draft", x.put(1), Paper.ARGUMENT);
        Paper.due("at", x.at(), 0);
    }

    private static void allItsCalls() {
        Paper.says("An object is used for at most 512 calls after it has been made; what later calls answer is free.");
        Paper x = new Paper();
        for (int i = 0; i < 170; i++) {
            int number = 1 + i % 9;
            Paper.due("type", x.ask(p -> p.type(0x5D_31_5BL)), 3);
            Paper.due("put " + number, x.put(number), Paper.OK);
            Paper.due("go " + number, x.go(number), PaperObjects.ARRAY);
        }
        Paper.due("call 511", x.into(0), PaperObjects.NUMBER);
        Paper.due("call 512", x.value(1), 1);
    }

    private static void typedBytes() {
        Paper.says("from the lowest one on, up to the first byte 0 (or all eight)");
        Paper x = new Paper();
        Paper.due("none", x.ask(p -> p.type(0)), 0);
        Paper.due("none, for the lowest is 0", x.ask(p -> p.type(0x41_41_41_41_41_41_41_00L)), 0);
        Paper.due("one", x.ask(p -> p.type(0x41_41_41_41_41_41_00_28L)), 1);
        Paper.due("seven", x.ask(p -> p.type(0x00_37_36_35_34_33_32_31L)), 8);
        Paper.due("one more", x.ask(p -> p.type(0x29L)), 9);
        Paper.due("put", x.put(1), Paper.OK);
        Paper.due("printed", x.printedOf(1), "(1234567)");
        Paper.due("all eight", x.ask(p -> p.type(0x29_66_65_64_63_62_61_28L)), 8);
        Paper.due("put", x.put(1), Paper.OK);
        Paper.due("printed", x.printedOf(1), "(abcdef)");
        Paper.due("what is no character behind the first 0", x.ask(p -> p.type(0xFF_80_7F_1F_09_01_00_37L)), 1);
    }

    private static void typedNoCharacters() {
        Paper.says("IllegalArgumentException when one is no character, or it would have more than 100.");
        Paper x = new Paper();
        x.type("12");
        for (int i = 0; i < 8; i++) {
            for (long c : new long[] {1, 9, 11, 31, 127, 128, 255}) {
                long text = 0x33_33_33_33_33_33_33_33L & ~(255L << 8 * i) | c << 8 * i;
                Paper.due("byte " + i + " is " + c, x.ask(p -> p.type(text)), Paper.ARGUMENT);
            }
        }
        Paper.due("draft", draft(x), 2);
        Paper.due("put", x.put(1), Paper.OK);
        Paper.due("printed", x.printedOf(1), "12");
    }

    private static void typedTooMany() {
        Paper.says("IllegalArgumentException when one is no character, or it would have more than 100.");
        for (int before = 92; before <= 100; before++) {
            for (int more = 0; more <= 8; more++) {
                Paper x = new Paper();
                Paper.due("type " + before, x.type("1" + " ".repeat(before - 1)), before);
                long text = Paper.pack(" ".repeat(more));
                boolean fits = before + more <= 100;
                Paper.due("type " + more + " more", x.ask(p -> p.type(text)), fits ? "" + (before + more) : Paper.ARGUMENT);
                Paper.due("draft", draft(x), fits ? before + more : before);
                Paper.due("put", x.put(1), Paper.OK);
            }
        }
    }

    private static void draftStays() {
        Paper.says("Appends to the DRAFT the characters that the bytes of text are");
        Paper x = with("[1 0 R]", "2");
        x.type("[4 ");
        x.root(1);
        x.save(true);
        x.save(false);
        x.load();
        x.load();
        x.free(9);
        x.poke(0, '#');
        x.load();
        x.cut(5);
        x.load();
        x.go(1);
        x.into(0);
        x.follow();
        x.printed();
        x.free(1);
        Paper.due("the draft goes on", x.type("5]"), 5);
        Paper.due("put", x.put(1), Paper.OK);
        Paper.due("printed", x.printedOf(1), "[4 5]");
    }

    private static void fileStays() {
        Paper.says("Character i of the file, as a number.");
        Paper x = new Paper();
        String file = "1 0 obj\n<<>>\nendobj\nxref\n1 1\n000 0 n\ntrailer\n<</Root 1 0 R>>\nstartxref\n20\n%%EOF\n";
        x.writeFile(file);
        Paper.due("load", x.load(), 1);
        x.content(1, "abc");
        x.put(2, "[1 0 R]");
        x.root(2);
        x.free(1);
        x.go(2);
        x.printed();
        x.type("abc");
        Paper.due("file behind calls that are not for it", x.fileText(), file);
    }

    private static void putOfMore() {
        Paper.says("The draft is read as a value, with nothing but spaces and newlines behind it, which becomes that of the object");
        Paper x = new Paper();
        Paper.due("nothing behind", x.put(1, "[1]"), Paper.OK);
        Paper.due("spaces and newlines behind", x.put(1, "[2] \n\n "), Paper.OK);
        Paper.due("another value behind", x.put(1, "[3] \n[4]"), Paper.ARGUMENT);
        Paper.due("at", x.at(), 5);
        Paper.due("no value", x.put(1, " \n"), Paper.ARGUMENT);
        Paper.due("at", x.at(), 2);
        Paper.due("the value", x.printedOf(1), "[2]");
    }

    private static void putNumbers() {
        Paper.says("IndexOutOfBoundsException when number is not 1 .. 9");
        Paper x = new Paper();
        x.type("5");
        for (int number : NO_NUMBERS) {
            Paper.due("put " + number, x.put(number), Paper.BOUNDS);
        }
        Paper.due("the draft stays", draft(x), 1);
        Paper.due("put 1", x.put(1), Paper.OK);
        Paper.due("put 9", x.put(9, "6"), Paper.OK);
        Paper.due("states", x.states(), "3 0 0 0 0 0 0 0 3");
    }

    private static void putKeepsGeneration() {
        Paper.says("it is in use then, without contents, with the generation that it has");
        Paper x = with("<<>>");
        x.content(1, "abc");
        x.free(1);
        Paper.due("put of a free one", x.put(1, "<</Length 3>>"), Paper.OK);
        Paper.due("state", x.state(1), 7);
        x.content(1, "abc");
        Paper.due("put of one in use", x.put(1, "<</Length 3>>"), Paper.OK);
        Paper.due("state", x.state(1), 7);
        x.root(1);
        Paper.due("without contents", x.save(true), Paper.anewLength(8 + 14 + 7));
    }

    private static void putEmptiesTheDraft() {
        Paper.says("The draft is empty then, also when it has a fault (it stays with the other two exceptions).");
        Paper x = new Paper();
        x.put(1, "1");
        Paper.due("draft behind a put", draft(x), 0);
        Paper.due("put with a fault", x.put(1, "[1 x"), Paper.ARGUMENT);
        Paper.due("draft behind a fault", draft(x), 0);
        Paper.due("put of no number", x.put(0, "[2"), Paper.BOUNDS);
        Paper.due("draft", draft(x), 2);
        x.put(1);
        for (int i = 0; i < 9; i++) {
            x.put(2, "1");
            x.free(2);
        }
        Paper.due("put of generation 9", x.put(2, "[2"), Paper.STATE);
        Paper.due("draft", draft(x), 2);
        x.type("]");
        Paper.due("put of what stayed", x.put(3), Paper.OK);
        Paper.due("printed", x.printedOf(3), "[2]");
    }

    private static void putOfGeneration9() {
        Paper.says("IllegalStateException when it is free with generation 9");
        Paper x = new Paper();
        x.writeFile("1 9 obj\n5\nendobj\nxref\n1 3\n000 9 n\n000 9 f\n000 8 f\ntrailer\n<</Root 1 9 R>>\nstartxref\n17\n%%EOF\n");
        Paper.due("load", x.load(), 1);
        x.type("1");
        Paper.due("free with 9", x.put(2), Paper.STATE);
        Paper.due("free with 8", x.put(3), Paper.OK);
        Paper.due("in use with 9", x.put(1, "2"), Paper.OK);
        Paper.due("states", x.states(), "39 36 35 0 0 0 0 0 0");
        x.free(3);
        Paper.due("free with 9 now", x.put(3, "1"), Paper.STATE);
    }

    private static void contentGoes() {
        Paper.says("The draft becomes the contents of an object, and is empty then.");
        Paper x = with("<<>>");
        Paper.due("content", x.content(1, "(a) \\"), Paper.OK);
        Paper.due("draft", draft(x), 0);
        Paper.due("content of nothing", x.tell(p -> p.content(1)), Paper.OK);
        x.root(1);
        x.save(true);
        Paper.due("the latest contents", x.fileText().substring(7, 54), "1 0 obj\n<</Length 0>>\nstream\n\nendstream\nendobj\n");
    }

    private static void lengthBecomes(String before, String after) {
        Paper x = with(before);
        Paper.due("content of " + before, x.content(1, "abc"), Paper.OK);
        Paper.due("value", x.printedOf(1), after);
    }

    private static void lengthOfContents() {
        Paper.says("Its part Length becomes the number of characters, unless it is a reference; if there is no such part, it comes as the last one.");
        for (String one : new String[] {"0", "3", "null", "true", "/Length", "(a)", "[]", "[1 [2]]", "<<>>", "<</Length 1>>"}) {
            lengthBecomes("<</a 1/Length " + one + "/b[2]>>", "<</a 1 /Length 3 /b [2]>>");
            lengthBecomes("<</a 1/Length " + one + ">>", "<</a 1 /Length 3>>");
        }
        lengthBecomes("<</Length[1 2]/a(b)/c 8 9 R/d/e/f-5>>", "<</Length 3 /a (b) /c 8 9 R /d /e /f -5>>");
        lengthBecomes("<</Length 1 0 R>>", "<</Length 1 0 R>>");
        lengthBecomes("<</Length 9 9 R/a 1>>", "<</Length 9 9 R /a 1>>");
        lengthBecomes("<<>>", "<</Length 3>>");
        lengthBecomes("<</length 1/b<</Length 1>>>>", "<</length 1 /b <</Length 1>> /Length 3>>");
        Paper x = with("<<>>");
        x.content(1, "");
        Paper.due("0", x.printedOf(1), "<</Length 0>>");
        x.content(1, "123456789012");
        Paper.due("12", x.printedOf(1), "<</Length 12>>");
    }

    private static void contentNumbers() {
        Paper.says("NoSuchElementException when it is not in use or there is no such number");
        Paper x = with("<<>>", "<<>>");
        x.free(2);
        for (int number : NO_NUMBERS) {
            Paper.due("content " + number, x.tell(p -> p.content(number)), Paper.ELEMENT);
        }
        Paper.due("content of one that was freed", x.tell(p -> p.content(2)), Paper.ELEMENT);
        Paper.due("content of one that never was", x.tell(p -> p.content(9)), Paper.ELEMENT);
    }

    private static void contentOfNoDictionary() {
        Paper.says("IllegalStateException when its value is no dictionary, or would have a 13th value");
        for (String one : new String[] {"null", "true", "false", "1", "/a", "(a)", "[]", "2 0 R"}) {
            Paper x = with(one, "<<>>");
            Paper.due("content of " + one, x.content(1, ""), Paper.STATE);
        }
    }

    private static void contentWithA13thValue() {
        Paper.says("IllegalStateException when its value is no dictionary, or would have a 13th value");
        Paper x = with("<</a[1 2 3 4 5 6 7 8 9 0]>>", "<</a[1 2 3 4 5 6 7 8 9]>>", "<</a[1 2 3 4 5 6 7 8 9]/Length 1>>",
            "<</a[1 2 3 4 5 6 7 8 9]/Length 1 0 R>>", "<</Length[1 2 3 4 5 6 7 8 9 0]>>");
        Paper.due("12 values without Length", x.content(1, "a"), Paper.STATE);
        Paper.due("the draft stays", draft(x), 1);
        Paper.due("the value stays", x.printedOf(1), "<</a [1 2 3 4 5 6 7 8 9 0]>>");
        Paper.due("11 values without Length", x.tell(p -> p.content(2)), Paper.OK);
        Paper.due("12 values with Length", x.content(3, "a"), Paper.OK);
        Paper.due("12 values with a reference as Length", x.content(4, "a"), Paper.OK);
        Paper.due("12 values within Length", x.content(5, "a"), Paper.OK);
        Paper.due("value", x.printedOf(5), "<</Length 1>>");
        Paper.due("content again", x.content(2, "ab"), Paper.OK);
    }

    private static void contentOfBadDrafts() {
        Paper.says("IllegalArgumentException when the draft has a newline or more than 12 characters (it stays then)");
        for (String text : new String[] {"\n", "a\n", "\na", "12345678901\n", "1234567890123", "123456789012\n", " ".repeat(13), "x".repeat(100)}) {
            Paper x = with("<<>>");
            Paper.due("content of " + text, x.content(1, text), Paper.ARGUMENT);
            Paper.due("the draft stays", draft(x), text.length());
            Paper.due("the value stays", x.printedOf(1), "<<>>");
        }
        for (String text : new String[] {"", " ", "123456789012", " ".repeat(12)}) {
            Paper x = with("<<>>");
            Paper.due("content of " + text, x.content(1, text), Paper.OK);
        }
    }

    private static void freeGrows() {
        Paper.says("An object becomes free; its generation grows by 1, but 9 stays.");
        Paper x = new Paper();
        for (int i = 1; i <= 9; i++) {
            x.put(4, "1");
            x.free(4);
            Paper.due("state behind free " + i, x.state(4), 4 * i + 2);
        }
        x = new Paper();
        x.writeFile("1 9 obj\n5\nendobj\nxref\n1 1\n000 9 n\ntrailer\n<</Root 1 9 R>>\nstartxref\n17\n%%EOF\n");
        x.load();
        Paper.due("free of generation 9", x.free(1), Paper.OK);
        Paper.due("state", x.state(1), 38);
    }

    private static void freeAndRootNumbers() {
        Paper.says("NoSuchElementException as with content.");
        Paper x = with("1", "2");
        x.free(2);
        for (int number : NO_NUMBERS) {
            Paper.due("free " + number, x.free(number), Paper.ELEMENT);
            Paper.due("root " + number, x.root(number), Paper.ELEMENT);
            Paper.due("go " + number, x.go(number), Paper.ELEMENT);
        }
        for (int number : new int[] {2, 9}) {
            Paper.due("free " + number, x.free(number), Paper.ELEMENT);
            Paper.due("root " + number, x.root(number), Paper.ELEMENT);
            Paper.due("go " + number, x.go(number), Paper.ELEMENT);
        }
        Paper.due("states", x.states(), "3 6 0 0 0 0 0 0 0");
        Paper.due("no root", x.save(true), Paper.STATE);
    }

    private static void rootChangesNothing() {
        Paper.says("The root becomes a reference to the object and its generation (nothing is changed by that, the cursor stays).");
        Paper x = with("[7]", "2");
        x.free(2);
        x.put(2, "[1 0 R]");
        x.root(2);
        x.save(true);
        x.go(1);
        x.into(0);
        Paper.due("root 1", x.root(1), Paper.OK);
        Paper.due("the cursor stays", x.value(1), 7);
        Paper.due("states", x.states(), "1 5 0 0 0 0 0 0 0");
        Paper.due("reached", x.reached(), 1);
        Paper.due("root 2", x.root(2), Paper.OK);
        Paper.due("reached", x.reached(), 2);
        x.save(true);
        Paper.due("with its generation", "" + x.fileText().contains("<</Root 2 1 R>>"), "true");
    }

    private static void saveWithoutRoot() {
        Paper.says("IllegalStateException when there is no root");
        Paper x = with("1");
        Paper.due("anew", x.save(true), Paper.STATE);
        x.writeFile("startxref\n0\n%%EOF\n");
        Paper.due("by adding", x.save(false), Paper.STATE);
        x.root(1);
        x.free(1);
        Paper.due("a root that means nothing is one", x.save(false), 18 + 5 + 4 + 8 + 8 + 24 + 10 + 3 + 6);
    }

    private static void saveWithoutTail() {
        Paper.says("or (by adding) the file does not end as a file has to (TAIL)");
        Paper x = with("1");
        x.root(1);
        for (String end : new String[] {"", "\n%%EOF\n", "startxref\n\n%%EOF\n", "startxref\n0000\n%%EOF\n", "startxref\n0\n%%EOF", "startxref\n0\n%%EOF\n\n", "startxre\n0\n%%EOF\n"}) {
            x.writeFile(end);
            Paper.due("by adding behind " + end, x.save(false), Paper.STATE);
            Paper.due("size", x.size(), end.length());
        }
        Paper.due("anew", x.save(true), 148);
        Paper.due("by adding", x.save(false), 206);
    }

    private static void saveWithoutLength() {
        Paper.says("or the part Length of an object with contents that would be written does not resolve to the number of its characters");
        for (String length : new String[] {"2", "4", "-3", "null", "(abc)", "[3]", "2 0 R", "1 0 R", "9 0 R"}) {
            Paper x = with("<</Length 2 0 R>>", length);
            x.content(1, "abc");
            x.writeFile("startxref\n0\n%%EOF\n");
            x.root(1);
            Paper.due("anew with " + length, x.save(true), Paper.STATE);
            Paper.due("by adding with " + length, x.save(false), Paper.STATE);
            x.put(2, "3");
            Paper.due("with 3", x.save(true), Paper.anewLength(8 + 18 + 21 + 7 + 17));
        }
    }

    private static void saveOfWhatIsNotWritten() {
        Paper.says("or the part Length of an object with contents that would be written does not resolve to the number of its characters");
        Paper x = with("<</Length 2 0 R>>", "3", "5");
        x.content(1, "abc");
        x.root(1);
        x.save(true);
        x.put(2, "4");
        Paper.due("by adding, not changed", "" + !x.save(false).equals(Paper.STATE), "true");
        Paper.due("anew, reached", x.save(true), Paper.STATE);
        x.put(3, "5");
        x.root(3);
        Paper.due("anew, not reached", x.save(true), 148);
        x = with("<</Length 2 0 R>>", "3");
        x.content(1, "abc");
        x.put(1, "<</Length 2 0 R>>");
        x.put(2, "4");
        x.root(1);
        Paper.due("without contents", x.save(true), Paper.anewLength(8 + 18 + 7 + 17));
    }

    private static void saveToTheLimit() {
        Paper.says("UnsupportedOperationException when the file would have more than 999 characters");
        String full = "[(123456789012)(123456789012)(123456789012)(123456789012)(123456789012)(123456789012)]";
        for (int digits = 5; digits <= 6; digits++) {
            Paper x = with("[2 0 R 3 0 R 4 0 R 5 0 R 6 0 R 7 0 R 8 0 R 9 0 R]", full, full, full, full, full, full, full,
                "[(123456789012)(123456789012)" + "123456".substring(0, digits) + "]");
            x.root(1);
            Paper.due("anew to " + (994 + digits), x.save(true), digits == 5 ? "999" : Paper.UNSUPPORTED);
            Paper.due("size", x.size(), digits == 5 ? 999 : 0);
            x.put(1, "1");
            Paper.due("anew with less", x.save(true), 148);
        }
        for (int size = 939; size <= 942; size++) {
            Paper x = new Paper();
            x.put(1, "1");
            x.root(1);
            x.save(true);
            for (int i = 0; i < 13; i++) {
                x.save(false);
            }
            // 914 now: a tail behind as many characters as are wanted; a save adds 58 to that.
            String tail = "x".repeat(size - 914 - 19) + "startxref\n24\n%%EOF\n";
            for (int i = 0; i < tail.length(); i++) {
                x.poke(914 + i, tail.charAt(i));
            }
            boolean fits = size + 58 <= 999;
            Paper.due("by adding to " + (size + 58), x.save(false), fits ? "" + (size + 58) : Paper.UNSUPPORTED);
            Paper.due("size", x.size(), fits ? size + 58 : size);
        }
    }

    private static void loadAnswers() {
        Paper.says("Loads the file: table and root become what it says. Answers how many objects are in use.");
        loads("xref\ntrailer\n<</Root 1 0 R>>\nstartxref\n0\n%%EOF\n", "0");
        Sheet all = new Sheet();
        for (int number = 1; number <= 9; number++) {
            all.object(number, "1\nendobj\n");
        }
        Paper x = loads(all.end(), "9");
        Paper.due("states", x.states(), "1 1 1 1 1 1 1 1 1");
        Paper.due("reached", x.reached(), 1);
        Paper.due("the empty file", new Paper().load(), Paper.ARGUMENT);
    }

    private static void atOfWhat() {
        Paper.says("Of the latest put, content or load that threw nothing or IllegalArgumentException: the place of its fault (of content: 0); NONE when it had none, or there was no such call.");
        Paper x = new Paper();
        Paper.due("no such call", x.at(), -1);
        x.put(0, "x");
        Paper.due("none yet", x.at(), -1);
        x.put(1);
        Paper.due("a put at 0", x.at(), 0);
        x.put(1, "<<>>");
        Paper.due("a put without a fault", x.at(), -1);
        x.put(2, "   x");
        Paper.due("a put", x.at(), 3);
        x.content(9, "a\n");
        x.put(10);
        Paper.due("others that throw", x.at(), 3);
        x.tell(p -> p.content(1));
        Paper.due("a content", x.at(), 0);
        x.put(2);
        x.put(2, "[]");
        x.put(3, "  x");
        x.content(2, "a");
        Paper.due("a content of no dictionary", x.at(), 2);
        x.tell(p -> p.content(1));
        Paper.due("a content without a fault", x.at(), -1);
        x.put(3, "  x");
        x.load();
        Paper.due("a load", x.at(), 0);
        x.root(1);
        x.save(true);
        x.load();
        Paper.due("a load without a fault", x.at(), -1);
    }

    private static void atStays() {
        Paper.says("Of the latest put, content or load that threw nothing or IllegalArgumentException");
        Paper x = with("[1 0 R]", "1");
        x.put(3, "  x");
        x.type("abc");
        x.root(1);
        x.save(true);
        x.save(false);
        x.free(2);
        x.free(2);
        x.poke(0, 'x');
        x.poke(-1, 'x');
        x.cut(300);
        x.go(1);
        x.into(0);
        x.follow();
        x.value(9);
        x.state(0);
        x.root(9);
        Paper.due("at behind all others", x.at(), 2);
    }

    private static void faultOfLoads() {
        Paper.says("The fault that the latest load that threw met (also behind one that did not); 0 when none has thrown.");
        Paper x = with("<</Length 2 0 R>>", "3");
        x.content(1, "abc");
        x.root(1);
        int size = Integer.parseInt(x.save(true));
        Paper.due("none", x.fault(), 0);
        x.load();
        x.put(3, "x");
        x.put(3);
        Paper.due("none has thrown", x.fault(), 0);
        String text = x.fileText();
        faultBehind(x, text, size - 1, TAIL);
        faultBehind(x, text, text.indexOf("xref\n"), TABLE);
        faultBehind(x, text, text.indexOf("2 0 obj"), OBJECT);
        faultBehind(x, text, text.indexOf("2 0 R"), LENGTH);
        faultBehind(x, text, size - 1, TAIL);
    }

    /** Spoils a character of a file, loads it, makes it whole and loads it again. */
    private static void faultBehind(Paper x, String text, int place, int fault) {
        x.poke(place, '9');
        Paper.due("load of a file spoiled at " + place, x.load(), Paper.ARGUMENT);
        Paper.due("its fault", x.fault(), fault);
        x.poke(place, text.charAt(place));
        Paper.due("load of the whole file", x.load(), 2);
        Paper.due("the fault of before", x.fault(), fault);
    }

    private static void pokeBounds() {
        Paper.says("Character i of the file becomes c; i may be its length, if that is below 999: it grows then.");
        Paper x = new Paper();
        Paper.due("poke 0 of nothing", x.poke(0, 'a'), Paper.OK);
        Paper.due("size", x.size(), 1);
        Paper.due("poke 0", x.poke(0, 'b'), Paper.OK);
        Paper.due("size", x.size(), 1);
        Paper.due("poke 1", x.poke(1, 'c'), Paper.OK);
        Paper.due("file", x.fileText(), "bc");
        Paper.says("IndexOutOfBoundsException when i is not 0 .. its length");
        for (int i : new int[] {-1, 3, 999, 1000, LEAST, GREATEST}) {
            Paper.due("poke " + i, x.poke(i, 'a'), Paper.BOUNDS);
        }
        Paper.due("file", x.fileText(), "bc");
    }

    private static void pokeWrongCharacters() {
        Paper.says("IllegalArgumentException when c is no character, or the file would have more than 999");
        Paper x = SaveBoundsTest.fullFile(998);
        for (int i : new int[] {0, 997, 998}) {
            for (int c : new int[] {0, 9, 11, 31, 127, 255, 266, 65535}) {
                Paper.due("poke of " + c + " at " + i, x.poke(i, (char) c), Paper.ARGUMENT);
            }
        }
        Paper.due("size", x.size(), 998);
        Paper.due("the last that fits", x.poke(998, '\n'), Paper.OK);
        Paper.due("one more", x.poke(999, 'a'), Paper.ARGUMENT);
        Paper.due("behind one more", x.poke(1000, 'a'), Paper.BOUNDS);
        Paper.due("the last again", x.poke(998, 'a'), Paper.OK);
        Paper.due("size", x.size(), 999);
        Paper.due("character", x.character(998), 'a');
    }

    private static void cutBounds() {
        Paper.says("The file keeps its first n characters. IndexOutOfBoundsException when n is not 0 .. its length.");
        Paper x = new Paper();
        Paper.due("cut 0 of nothing", x.cut(0), Paper.OK);
        Paper.due("cut 1 of nothing", x.cut(1), Paper.BOUNDS);
        x.writeFile("abc");
        for (int n : new int[] {-1, 4, LEAST, GREATEST}) {
            Paper.due("cut " + n, x.cut(n), Paper.BOUNDS);
        }
        Paper.due("cut 3", x.cut(3), Paper.OK);
        Paper.due("file", x.fileText(), "abc");
        Paper.due("cut 1", x.cut(1), Paper.OK);
        Paper.due("file", x.fileText(), "a");
        Paper.due("cut 2, which was", x.cut(2), Paper.BOUNDS);
        Paper.due("cut 0", x.cut(0), Paper.OK);
        Paper.due("size", x.size(), 0);
        Paper full = SaveBoundsTest.fullFile(999);
        Paper.due("cut 999", full.cut(999), Paper.OK);
        Paper.due("cut 1000", full.cut(1000), Paper.BOUNDS);
        Paper.due("cut 998", full.cut(998), Paper.OK);
        Paper.due("size", full.size(), 998);
    }

    private static void sizes() {
        Paper.says("How many characters the file has.");
        Paper x = new Paper();
        Paper.due("none", x.size(), 0);
        x.poke(0, '\n');
        Paper.due("one", x.size(), 1);
        Paper.due("999", SaveBoundsTest.fullFile(999).size(), 999);
    }

    private static void characterBounds() {
        Paper.says("Character i of the file, as a number. IndexOutOfBoundsException when there is none.");
        Paper x = new Paper();
        Paper.due("character 0 of nothing", x.character(0), Paper.BOUNDS);
        x.writeFile("\n ~");
        Paper.due("newline", x.character(0), 10);
        Paper.due("space", x.character(1), 32);
        Paper.due("tilde", x.character(2), 126);
        for (int i : new int[] {-1, 3, LEAST, GREATEST}) {
            Paper.due("character " + i, x.character(i), Paper.BOUNDS);
        }
        x.cut(2);
        Paper.due("character 2, which was", x.character(2), Paper.BOUNDS);
        Paper full = SaveBoundsTest.fullFile(999);
        Paper.due("character 998", full.character(998), 'x');
        Paper.due("character 999", full.character(999), Paper.BOUNDS);
    }

    private static void stateBounds() {
        Paper.says("Of an object: 4 * generation, plus 2 if it is changed, plus 1 if it is in use. IndexOutOfBoundsException when number is not 1 .. 9.");
        Paper x = new Paper();
        for (int number : NO_NUMBERS) {
            Paper.due("state " + number, x.state(number), Paper.BOUNDS);
        }
        x.writeFile("1 9 obj\n5\nendobj\nxref\n1 3\n000 9 n\n000 9 f\n000 8 f\ntrailer\n<</Root 1 9 R>>\nstartxref\n17\n%%EOF\n");
        x.load();
        x.put(9, "1");
        x.put(8, "1");
        x.free(8);
        x.put(3, "1");
        Paper.due("states", x.states(), "37 36 35 0 0 0 0 6 3");
        x.put(1, "1");
        Paper.due("the greatest", x.state(1), 39);
    }

    private static void goAnswers() {
        Paper.says("The cursor goes to the value of an object; answers its kind.");
        String[] texts = {"null", "true", "false", "0", "/a", "()", "[]", "<<>>", "1 0 R"};
        Paper x = with(texts);
        for (int kind = 0; kind < texts.length; kind++) {
            Paper.due("go to " + texts[kind], x.go(kind + 1), kind);
            Paper.due("printed", x.printed(), texts[kind]);
        }
    }

    private static void intoBounds() {
        Paper.says("IllegalStateException when there is no cursor, or it is elsewhere; IndexOutOfBoundsException when there is no such part.");
        Paper x = with("[1 [] <<>> <</a 2/b 3>> [4 5 [6]]]");
        Paper.due("no cursor", x.into(0), Paper.STATE);
        for (int i : new int[] {-1, 5, 6, LEAST, GREATEST}) {
            x.go(1);
            Paper.due("into " + i, x.into(i), Paper.BOUNDS);
        }
        for (int part = 1; part <= 2; part++) {
            x.go(1);
            x.into(part);
            Paper.due("into 0 of an empty one", x.into(0), Paper.BOUNDS);
            Paper.due("into -1 of an empty one", x.into(-1), Paper.BOUNDS);
        }
        x.go(1);
        Paper.due("into 3", x.into(3), PaperObjects.DICTIONARY);
        Paper.due("into 2 of a dictionary of two", x.into(2), Paper.BOUNDS);
        Paper.due("into 1 of a dictionary of two", x.into(1), PaperObjects.NUMBER);
        Paper.due("into a number", x.into(0), Paper.STATE);
        x.go(1);
        Paper.due("into 4, the last", x.into(4), PaperObjects.ARRAY);
        Paper.due("into 3 of three", x.into(3), Paper.BOUNDS);
        Paper.due("into 2 of three", x.into(2), PaperObjects.ARRAY);
        Paper.due("into 1 of one", x.into(1), Paper.BOUNDS);
        Paper.due("into 0 of one", x.into(0), PaperObjects.NUMBER);
        for (String one : new String[] {"null", "true", "false", "1", "/a", "(a)", "1 0 R"}) {
            x.put(2, one);
            x.go(2);
            Paper.due("into " + one, x.into(0), Paper.STATE);
        }
    }

    private static void followBounds() {
        Paper.says("IllegalStateException when there is no cursor; UnsupportedOperationException when that is a cycle.");
        Paper x = with("1 0 R", "[2 0 R 1 0 R 3 0 R]", "1 1 R");
        Paper.due("no cursor", x.follow(), Paper.STATE);
        x.go(1);
        Paper.due("a cycle", x.follow(), Paper.UNSUPPORTED);
        Paper.due("the cursor stays", x.printed(), "1 0 R");
        x.go(2);
        Paper.due("what is no reference", x.follow(), PaperObjects.ARRAY);
        x.into(1);
        Paper.due("a part that goes into a cycle", x.follow(), Paper.UNSUPPORTED);
        x.go(2);
        x.into(2);
        Paper.due("a reference that means nothing", x.follow(), PaperObjects.NULL);
        Paper.due("follow of that", x.follow(), PaperObjects.NULL);
        Paper.due("into that", x.into(0), Paper.STATE);
        x.go(2);
        x.into(0);
        Paper.due("the array that holds it", x.follow(), PaperObjects.ARRAY);
        Paper.due("its parts", x.value(1), 3);
    }

    private static void valueOf(String text, int number, int second) {
        Paper x = with(text);
        String kind = x.go(1);
        Paper.due("value 0 of " + text, x.value(0), kind);
        Paper.due("value 1 of " + text, x.value(1), number);
        Paper.due("value 2 of " + text, x.value(2), second);
    }

    private static void valueBounds() {
        Paper.says("IllegalStateException when there is no cursor; IllegalArgumentException when what is not 0 .. 2.");
        Paper x = with("[1]");
        for (int what : new int[] {0, 1, 2, 3, -1}) {
            Paper.due("value " + what + " without a cursor", x.value(what), Paper.STATE);
        }
        x.go(1);
        for (int what : new int[] {3, -1, 4, LEAST, GREATEST}) {
            Paper.due("value " + what, x.value(what), Paper.ARGUMENT);
        }
    }

    private static void valuesOfAllKinds() {
        Paper.says("1 the number of a NUMBER, of a REFERENCE its object's, of names and strings how many characters, of arrays and dictionaries how many parts, otherwise 0; 2 the generation of a REFERENCE, otherwise its depth");
        valueOf("null", 0, 1);
        valueOf("true", 0, 1);
        valueOf("false", 0, 1);
        valueOf("0", 0, 1);
        valueOf("-999999", -999999, 1);
        valueOf("999999", 999999, 1);
        valueOf("1 0 R", 1, 0);
        valueOf("9 9 R", 9, 9);
        valueOf("/a", 1, 1);
        valueOf("/abcdef", 6, 1);
        valueOf("()", 0, 1);
        valueOf("(\\(\\(\\(\\(\\(\\(\\(\\(\\(\\(\\(\\()", 12, 1);
        valueOf("[]", 0, 1);
        valueOf("<<>>", 0, 1);
        valueOf("[1 2 3 4 5 6 7 8 9 0 1]", 11, 2);
        valueOf("[[1 2 3] [4 5]]", 2, 3);
        valueOf("[[[[[]]]]]", 1, 5);
        valueOf("<</a<</b<</c<</d 1>>>>>>>>", 1, 5);
        Paper x = with("[1 [2 [3 [4]]] [[]] 5 0 R]");
        int[][] parts = {{1, 1}, {2, 4}, {1, 2}, {5, 0}};
        for (int i = 0; i < parts.length; i++) {
            x.go(1);
            x.into(i);
            Paper.due("value 1 of part " + i, x.value(1), parts[i][0]);
            Paper.due("value 2 of part " + i, x.value(2), parts[i][1]);
        }
    }

    private static void printedBounds() {
        Paper.says("Character i of the cursor's value as printed, as a number; NONE when there is none, or no cursor.");
        Paper x = with("[ (a) ]");
        Paper.due("no cursor", x.printed(0), -1);
        Paper.due("no cursor", x.printed(-1), -1);
        x.go(1);
        Paper.due("the first", x.printed(0), '[');
        Paper.due("the last", x.printed(4), ']');
        for (int i : new int[] {-1, 5, 6, 999, 1000, LEAST, GREATEST}) {
            Paper.due("printed " + i, x.printed(i), -1);
        }
        x.into(0);
        Paper.due("the last of a part", x.printed(2), ')');
        Paper.due("behind a part", x.printed(3), -1);
        x.put(2, "1");
        Paper.due("no cursor any more", x.printed(0), -1);
    }

    private static void longestPrinted() {
        Paper.says("Character i of the cursor's value as printed, as a number; NONE when there is none, or no cursor.");
        String string = "(" + "(".repeat(12) + ")";
        StringBuilder text = new StringBuilder("<<");
        StringBuilder printed = new StringBuilder("<<");
        for (char key = 'a'; key <= 'k'; key++) {
            text.append('/').append(key).append("12345").append(string);
            printed.append(key == 'a' ? "/" : " /").append(key).append("12345 (").append("\\(".repeat(12)).append(')');
        }
        Paper x = loads("1 0 obj\n" + text + ">>\nendobj\nxref\n1 1\n000 0 n\ntrailer\n<</Root 1 0 R>>\nstartxref\n" + (text.length() + 18) + "\n%%EOF\n", "1");
        printed.append(">>");
        x.go(1);
        Paper.due("the last character", x.printed(printed.length() - 1), '>');
        Paper.due("behind it", x.printed(printed.length()), -1);
        for (int i = 0; i < printed.length(); i += 7) {
            Paper.due("character " + i, x.printed(i), printed.charAt(i));
        }
    }

    private static void reachedCounts() {
        Paper.says("How many objects are reached; 0 when there is no root.");
        Paper x = with("[2 0 R]", "[1 0 R]", "4 0 R", "[]");
        Paper.due("no root", x.reached(), 0);
        x.root(4);
        Paper.due("the root alone", x.reached(), 1);
        x.root(3);
        Paper.due("a root that is a reference", x.reached(), 2);
        x.root(1);
        Paper.due("two that reach one another", x.reached(), 2);
        x.put(4, "[1 0 R 2 0 R 3 0 R 4 0 R 5 0 R 6 0 R 7 0 R 8 0 R 9 0 R]");
        for (int number = 5; number <= 9; number++) {
            x.put(number, "null");
        }
        x.root(4);
        Paper.due("all", x.reached(), 9);
        x.free(4);
        Paper.due("a root that means nothing", x.reached(), 0);
    }

    public static void main(String[] args) {
        newObject();
        allItsCalls();
        typedBytes();
        typedNoCharacters();
        typedTooMany();
        draftStays();
        fileStays();
        putOfMore();
        putNumbers();
        putKeepsGeneration();
        putEmptiesTheDraft();
        putOfGeneration9();
        contentGoes();
        lengthOfContents();
        contentNumbers();
        contentOfNoDictionary();
        contentWithA13thValue();
        contentOfBadDrafts();
        freeGrows();
        freeAndRootNumbers();
        rootChangesNothing();
        saveWithoutRoot();
        saveWithoutTail();
        saveWithoutLength();
        saveOfWhatIsNotWritten();
        saveToTheLimit();
        loadAnswers();
        atOfWhat();
        atStays();
        faultOfLoads();
        pokeBounds();
        pokeWrongCharacters();
        cutBounds();
        sizes();
        characterBounds();
        stateBounds();
        goAnswers();
        intoBounds();
        followBounds();
        valueBounds();
        valuesOfAllKinds();
        printedBounds();
        longestPrinted();
        reachedCounts();
        Paper.end();
    }
}
