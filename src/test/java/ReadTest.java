/** Promises 2, 3, 9 and 20: what is typed is read, its faults have places, and it is printed. */
public final class ReadTest extends Checks {
    private static void type() {
        Paper x = new Paper();
        Paper.due("type nothing", x.ask(p -> p.type(0)), 0);
        Paper.due("type up to a byte 0", x.ask(p -> p.type(0x62_00_63L << 8 | 0x61)), 2);
        Paper.due("type eight", x.type("12345678"), 10);
        Paper.due("type a byte 128", x.ask(p -> p.type(0x80_61L)), Paper.ARGUMENT);
        Paper.due("type a byte 255 as the eighth", x.ask(p -> p.type(-1L << 56 | 0x20_20_20_20_20_20_20L)), Paper.ARGUMENT);
        Paper.due("type a byte 127", x.ask(p -> p.type(127)), Paper.ARGUMENT);
        Paper.due("type a byte 31", x.ask(p -> p.type(31)), Paper.ARGUMENT);
        Paper.due("type a byte 9", x.ask(p -> p.type(9)), Paper.ARGUMENT);
        Paper.due("type no character behind a byte 0", x.ask(p -> p.type(0x01_00_7EL)), 11);
        Paper.due("type a newline and a space", x.ask(p -> p.type(0x20_0AL)), 13);
        Paper.due("nothing of a text that threw", x.ask(p -> p.type(0)), 13);
    }

    private static void draftsLimit() {
        Paper x = new Paper();
        Paper.due("type 96", x.type(" ".repeat(96)), 96);
        Paper.due("type 5 more", x.type("12345"), Paper.ARGUMENT);
        Paper.due("type 4 more", x.type("   7"), 100);
        Paper.due("type nothing more", x.ask(p -> p.type(0)), 100);
        Paper.due("type one more", x.type("1"), Paper.ARGUMENT);
        Paper.due("put 100", x.put(1), Paper.OK);
        Paper.due("printed", x.printedOf(1), "7");
        Paper.due("type 92", x.type(" ".repeat(92)), 92);
        Paper.due("type 8 more", x.type("12345678"), 100);
    }

    private static void typeIsWhatWasTyped() {
        Paper x = new Paper();
        x.ask(p -> p.type(0x32_00_31L));
        x.ask(p -> p.type(0x33L));
        x.put(1);
        Paper.due("typed", x.printedOf(1), "13");
    }

    private static void plainValues() {
        reads("null", "null");
        reads("true", "true");
        reads("false", "false");
        reads("0", "0");
        reads("-0", "0");
        reads("-000", "0");
        reads("000042", "42");
        reads("-000042", "-42");
        reads("999999", "999999");
        reads("-999999", "-999999");
        reads("100000", "100000");
        reads("/a", "/a");
        reads("/Zz09aA", "/Zz09aA");
        reads("/0", "/0");
        reads("/null", "/null");
        reads("()", "()");
        reads("(123456789012)", "(123456789012)");
        reads("( ~ )", "( ~ )");
        reads("(((()", "(\\(\\(\\()");
        reads("(\\(\\)\\\\)", "(\\(\\)\\\\)");
        reads("(\\(\\)\\\\\\(\\)\\\\\\(\\)\\\\\\(\\)\\\\)", "(\\(\\)\\\\\\(\\)\\\\\\(\\)\\\\\\(\\)\\\\)");
        reads("(<</A]%)", "(<</A]%)");
        reads("1 0 R", "1 0 R");
        reads("9\n9 \n R", "9 9 R");
        reads(" \n 5 \n ", "5");
    }

    private static void nests() {
        reads("[]", "[]");
        reads("[ ]", "[]");
        reads("<<>>", "<<>>");
        reads("<< \n>>", "<<>>");
        reads("[1 2]", "[1 2]");
        reads("[1 0 R 2]", "[1 0 R 2]");
        reads("[1 2 0 R]", "[1 2 0 R]");
        reads("[1 1 0 R]", "[1 1 0 R]");
        reads("[1 0]", "[1 0]");
        reads("[12 0]", "[12 0]");
        reads("[[][]<<>>()/A/B]", "[[] [] <<>> () /A /B]");
        reads("[/A-1]", "[/A -1]");
        reads("[(a)1(b)null]", "[(a) 1 (b) null]");
        reads("<</A/B/C(d)/E[1]/F<</A 1>>>>", "<</A /B /C (d) /E [1] /F <</A 1>>>>");
        reads("<</A-1/B 1 0 R>>", "<</A -1 /B 1 0 R>>");
        reads("<</A 1 /a 2/AA 3/0 4>>", "<</A 1 /a 2 /AA 3 /0 4>>");
        reads("<</A <</A <</A 1>>>>>>", "<</A <</A <</A 1>>>>>>");
        reads("[[[[[]]]]]", "[[[[[]]]]]");
        reads("[[[[<<>>]]]]", "[[[[<<>>]]]]");
        reads("[[[[1]]]]", "[[[[1]]]]");
        reads("[<</A [1 [2 3]] /B []>> 4]", "[<</A [1 [2 3]] /B []>> 4]");
        reads("[1 2 3 4 5 6 7 8 9 0 1]", "[1 2 3 4 5 6 7 8 9 0 1]");
        reads("[[][][][][][][][][][][]]", "[[] [] [] [] [] [] [] [] [] [] []]");
    }

    private static void nothingBegins() {
        faultAt("", 0);
        faultAt(" \n ", 3);
        faultAt("]", 0);
        faultAt(" >>", 1);
        faultAt(">", 0);
        faultAt("<", 0);
        faultAt("< <", 0);
        faultAt("<<<>>", 2);
        faultAt("%", 0);
        faultAt(")", 0);
        faultAt("\\", 0);
        faultAt("[+1]", 1);
        faultAt("[1 >>", 3);
        faultAt("<</A 1]", 6);
        faultAt("<</A 1>", 6);
        faultAt("<</A 1> >", 6);
        faultAt("[1 2", 4);
        faultAt("[1 2 \n", 6);
        faultAt("[", 1);
        faultAt("[[[[[", 5);
        faultAt("<<", 2);
        faultAt("<</A", 4);
        faultAt("<</A ", 5);
        faultAt("<</A >>", 5);
        faultAt("<</A 1 ", 7);
    }

    private static void wordsThatAreNone() {
        faultAt("nul", 0);
        faultAt("nulll", 0);
        faultAt("Null", 0);
        faultAt("true1", 0);
        faultAt("false-", 0);
        faultAt("R", 0);
        faultAt("-", 0);
        faultAt("--1", 0);
        faultAt("1-", 0);
        faultAt("1-2", 0);
        for (char c : "azAZ09-".toCharArray()) {
            faultAt("[nul" + c + "]", 1);
            faultAt("[null" + c + "]", 1);
            faultAt("[-1" + c + "x]", 1);
            faultAt("[1 0 R" + c + "]", 5);
            faultAt("/abcde" + (c == '-' ? 'x' : c) + c, c == '-' ? 7 : 0);
        }
        faultAt("1a", 0);
        faultAt("1234567", 0);
        faultAt("-1234567", 0);
        faultAt("0000001", 0);
        faultAt("[1 0 Rx]", 5);
        faultAt("[0 1 R]", 5);
        faultAt("[1 10 R]", 6);
        faultAt("[10 1 R]", 6);
        faultAt("[1 -1 R]", 6);
        faultAt("[1 0 r]", 5);
        faultAt("[1 0 R-]", 5);
        faultAt("[1 0 R 0 R]", 9);
        faultAt("[1 0 (R)R]", 8);
        faultAt("[1/0 R]", 5);
        faultAt("[1[0 R]", 5);
        reads("[1 0/R]", "[1 0 /R]");
        reads("[1/A 0 1/R]", "[1 /A 0 1 /R]");
    }

    private static void namesAndStringsThatAreNone() {
        faultAt("/", 0);
        faultAt("/ A", 0);
        faultAt("/-", 0);
        faultAt("/abcdefg", 0);
        faultAt("[/A /(]", 4);
        faultAt("(", 0);
        faultAt("(abc", 0);
        faultAt("(abc\\)", 0);
        faultAt("(abc\\", 0);
        faultAt("(a\\b)", 0);
        faultAt("(a\\\n)", 0);
        faultAt("(a\nb)", 0);
        faultAt("(1234567890123)", 0);
        faultAt("(\\(\\(\\(\\(\\(\\(\\(\\(\\(\\(\\(\\(\\()", 0);
        faultAt("[1 (a\\\\\\)]", 3);
    }

    private static void keysThatCannotStand() {
        faultAt("<<1 2>>", 2);
        faultAt("<< A 2>>", 3);
        faultAt("<<(A) 2>>", 2);
        faultAt("<</ 2>>", 2);
        faultAt("<</abcdefg 2>>", 2);
        faultAt("<</A 1/A 2>>", 6);
        faultAt("<</A 1/B 2 /A 3>>", 11);
        faultAt("<</A <</A 1/A 2>>>>", 11);
        faultAt("<</A <</B 1>>/A 2>>", 13);
        faultAt("<<[] 1>>", 2);
    }

    private static void tooDeepOrTooMuch() {
        faultAt("[[[[[1]]]]]", 5);
        faultAt("[[[[[ []]]]]]", 6);
        faultAt("[[[[[<<>>]]]]]", 5);
        faultAt("[[[[[/A]]]]]", 5);
        faultAt("[[[[[1 0 R]]]]]", 5);
        faultAt("[[[[<</A 1>>]]]]", 9);
        faultAt("[[[[<</A <<>>>>]]]]", 9);
        faultAt("[[[[<</A>>]]]]", 8);
        faultAt("<</A <</A <</A <</A <</A 1>>>>>>>>>>", 25);
        faultAt("[1 2 3 4 5 6 7 8 9 0 1 2]", 23);
        faultAt("[1 2 3 4 5 6 7 8 9 0 1 []]", 23);
        faultAt("[1 2 3 4 5 6 7 8 9 0 1 1 0 R]", 23);
        faultAt("[1 2 3 4 5 6 7 8 9 0 <</A 1>>]", 26);
        faultAt("[1 2 3 4 5 6 7 8 9 0 1 x", 23);
        faultAt("[1 2 3 4 5 6 7 8 9 0 1 >>", 23);
        reads("[1 2 3 4 5 6 7 8 9 [1]]", "[1 2 3 4 5 6 7 8 9 [1]]");
        reads("[1 0 R 2 0 R 3 0 R 4 0 R 5 0 R 6 0 R 7 0 R 8 0 R 9 0 R 0 1]",
            "[1 0 R 2 0 R 3 0 R 4 0 R 5 0 R 6 0 R 7 0 R 8 0 R 9 0 R 0 1]");
    }

    private static void somethingBehind() {
        faultAt("1 2", 2);
        faultAt("1 \n ]", 4);
        faultAt("[]]", 2);
        faultAt("[] []", 3);
        faultAt("/A/B", 2);
        faultAt("()x", 2);
        faultAt("1 0 R %", 6);
        faultAt("1 0 R R", 6);
    }

    private static void putChangesAnObject() {
        Paper x = new Paper();
        Paper.due("put 0", x.put(0, "1"), Paper.BOUNDS);
        Paper.due("put 10", x.put(10), Paper.BOUNDS);
        Paper.due("put -1", x.put(-1), Paper.BOUNDS);
        Paper.due("put of the least int", x.put(Integer.MIN_VALUE), Paper.BOUNDS);
        Paper.due("the draft stays", x.ask(p -> p.type(0)), 1);
        Paper.due("put 9", x.put(9), Paper.OK);
        Paper.due("states", x.states(), "0 0 0 0 0 0 0 0 3");
        Paper.due("put 9 again", x.put(9, "[x"), Paper.ARGUMENT);
        Paper.due("the value stays", x.printedOf(9), "1");
        Paper.due("put 9 again", x.put(9, "2"), Paper.OK);
        Paper.due("the value is new", x.printedOf(9), "2");
        Paper.due("the generation stays", x.state(9), 3);
    }

    private static void putOfTheLastGeneration() {
        Paper x = new Paper();
        for (int i = 0; i < 9; i++) {
            Paper.due("put " + i, x.put(3, "1"), Paper.OK);
            x.free(3);
        }
        Paper.due("state", x.state(3), 4 * 9 + 2);
        Paper.due("put of generation 9, with a fault", x.put(3, "x"), Paper.STATE);
        Paper.due("the draft stays", x.ask(p -> p.type(0)), 1);
        Paper.due("at is the place of a put before", x.at(), -1);
        Paper.due("put of another one", x.put(4), Paper.ARGUMENT);
        Paper.due("at", x.at(), 0);
    }

    private static void putInUseWithTheLastGeneration() {
        Paper x = new Paper();
        x.writeFile("1 9 obj\n5\nendobj\nxref\n1 1\n000 9 n\ntrailer\n<</Root 1 9 R>>\nstartxref\n17\n%%EOF\n");
        Paper.due("load", x.load(), 1);
        Paper.due("put in use with generation 9", x.put(1, "6"), Paper.OK);
        Paper.due("state", x.state(1), 39);
        Paper.due("free", x.free(1), Paper.OK);
        Paper.due("9 stays", x.state(1), 38);
        Paper.due("put when free", x.put(1, "6"), Paper.STATE);
    }

    private static void putTakesContentsAway() {
        Paper x = new Paper();
        x.put(1, "<<>>");
        x.content(1, "abc");
        x.root(1);
        String with = x.save(true);
        x.put(1, "<</Length 3>>");
        Paper.due("save with contents", with, Paper.anewLength(8 + 14 + 21 + 7));
        Paper.due("save without contents", x.save(true), Paper.anewLength(8 + 14 + 7));
    }

    private static void aFaultLeavesNothingBehind() {
        Paper x = new Paper();
        x.put(1, "<</A");
        Paper.due("behind a key without value", x.put(1, "[/B <<>>]"), Paper.OK);
        Paper.due("printed", x.printedOf(1), "[/B <<>>]");
        x.put(1, "[[[[[[");
        Paper.due("behind what was begun", x.put(1, "<</A [1]>>"), Paper.OK);
        Paper.due("printed", x.printedOf(1), "<</A [1]>>");
        x.put(1, "[1 2 3 4 5 6 7 8 9 0 1 2");
        Paper.due("behind too many", x.put(1, "[1 2 3 4 5 6 7 8 9 0 1]"), Paper.OK);
        Paper.due("printed", x.printedOf(1), "[1 2 3 4 5 6 7 8 9 0 1]");
    }

    private static void at() {
        Paper x = new Paper();
        x.put(1, "<<>>");
        x.put(2, "[1 ");
        Paper.due("at behind a put", x.at(), 3);
        x.put(0, "");
        Paper.due("at behind a put with no such number", x.at(), 3);
        x.content(2, "");
        Paper.due("at behind a content of a free object", x.at(), 3);
        x.load();
        Paper.due("at behind a load", x.at(), 0);
        x.put(2, "  x");
        Paper.due("at behind a put", x.at(), 2);
        x.content(1, "a\nb");
        Paper.due("at behind a content with a fault", x.at(), 0);
        x.put(2);
        Paper.due("at behind a put of that draft", x.at(), 0);
        x.put(2, " x");
        x.content(1, "abc");
        Paper.due("at behind a content", x.at(), -1);
        x.put(2, " x");
        x.root(1);
        x.save(true);
        x.free(1);
        Paper.due("at behind other calls", x.at(), 1);
        x.load();
        Paper.due("at behind a load without a fault", x.at(), -1);
    }

    public static void main(String[] args) {
        type();
        draftsLimit();
        typeIsWhatWasTyped();
        plainValues();
        nests();
        nothingBegins();
        wordsThatAreNone();
        namesAndStringsThatAreNone();
        keysThatCannotStand();
        tooDeepOrTooMuch();
        somethingBehind();
        putChangesAnObject();
        putOfTheLastGeneration();
        putInUseWithTheLastGeneration();
        putTakesContentsAway();
        aFaultLeavesNothingBehind();
        at();
        Paper.end();
    }
}
