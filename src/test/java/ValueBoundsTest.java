/** What values are and how they are printed: a test for each sentence under "Terms" that names a limit of them. */
public final class ValueBoundsTest extends Checks {
    private static boolean isNameCharacter(char c) {
        return String.valueOf(c).matches("[A-Za-z0-9]");
    }

    private static void counts(String text, int count) {
        Paper x = new Paper();
        Paper.due("put " + text, x.put(1, text), Paper.OK);
        x.go(1);
        Paper.due("value(1) of " + text, x.value(1), count);
    }

    private static void depthOf(String text, int depth) {
        Paper x = new Paper();
        Paper.due("put " + text, x.put(1, text), Paper.OK);
        x.go(1);
        Paper.due("value(2) of " + text, x.value(2), depth);
    }

    private static void characters() {
        Paper.says("CHARACTERS are 32 .. 126 and 10, the NEWLINE.");
        Paper x = new Paper();
        for (int c = 1; c < 256; c++) {
            long code = c;
            boolean isOne = c == 10 || (c >= 32 && c <= 126);
            String typed = new Paper().ask(p -> p.type(code));
            Paper.due("type of byte " + c, typed, isOne ? "1" : Paper.ARGUMENT);
            Paper.due("poke of " + c, x.poke(0, (char) c), isOne ? Paper.OK : Paper.ARGUMENT);
        }
        Paper.due("poke of 0", x.poke(0, (char) 0), Paper.ARGUMENT);
        Paper.due("poke of 256 + 10", x.poke(0, (char) 266), Paper.ARGUMENT);
        Paper.due("poke of 256 + 32", x.poke(0, (char) 288), Paper.ARGUMENT);
        Paper.due("poke of 65535", x.poke(0, (char) 65535), Paper.ARGUMENT);
    }

    private static void numbers() {
        Paper.says("a NUMBER, -999999 .. 999999");
        counts("999999", 999999);
        counts("-999999", -999999);
        counts("0", 0);
        faultAt("1000000", 0);
        faultAt("-1000000", 0);
        faultAt("[1 1000000]", 3);
    }

    private static void namesLengths() {
        Paper.says("a NAME, 1 to 6 letters a .. z, A .. Z and digits");
        counts("/a", 1);
        counts("/abcdef", 6);
        faultAt("/", 0);
        faultAt("/abcdefg", 0);
        faultAt("[/a /]", 4);
        faultAt("[/abcdef /abcdefg]", 9);
    }

    private static void namesCharacters() {
        Paper.says("a NAME, 1 to 6 letters a .. z, A .. Z and digits");
        for (char c = 33; c < 127; c++) {
            if (isNameCharacter(c)) {
                reads("/" + c, "/" + c);
                reads("/a" + c, "/a" + c);
            } else {
                faultAt("/" + c, 0);
                faultAt("/a" + c, 2);
            }
        }
    }

    private static void stringsLengths() {
        Paper.says("a STRING, 0 to 12 characters 32 .. 126");
        counts("()", 0);
        counts("(a)", 1);
        counts("(123456789012)", 12);
        counts("(\\(\\(\\(\\(\\(\\(\\(\\(\\(\\(\\(\\()", 12);
        faultAt("(1234567890123)", 0);
        faultAt("(\\(\\(\\(\\(\\(\\(\\(\\(\\(\\(\\(\\(\\()", 0);
        faultAt("[(123456789012) (1234567890123)]", 16);
    }

    private static void stringsCharacters() {
        Paper.says("a STRING, 0 to 12 characters 32 .. 126");
        for (char c = 32; c < 127; c++) {
            boolean hasBackslash = c == '(' || c == ')' || c == '\\';
            String written = "(" + (hasBackslash ? "\\" : "") + c + ")";
            reads(written, written);
        }
        faultAt("(\n)", 0);
        faultAt("[() (a\nb)]", 4);
    }

    private static void keysLengths() {
        Paper.says("each with a name, its KEY, (like names) all different");
        reads("<</a 1>>", "<</a 1>>");
        reads("<</Zz0129 1>>", "<</Zz0129 1>>");
        faultAt("<</ 1>>", 2);
        faultAt("<</abcdefg 1>>", 2);
    }

    private static void keysAreDifferent() {
        Paper.says("each with a name, its KEY, (like names) all different");
        faultAt("<</a 1/a 2>>", 6);
        faultAt("<</abcdef 1/b 2/abcdef 3>>", 15);
        reads("<</abcdef 1/abcdeF 2/abcde 3>>", "<</abcdef 1 /abcdeF 2 /abcde 3>>");
        reads("<</a <</a 1>>/b <</a 1>>>>", "<</a <</a 1>> /b <</a 1>>>>");
        reads("<</a /a>>", "<</a /a>>");
    }

    private static void references() {
        Paper.says("a REFERENCE, an object's number 1 .. 9 and a GENERATION 0 .. 9");
        for (int i = 0; i <= 9; i++) {
            String one = Math.max(i, 1) + " " + i + " R";
            reads(one, one);
        }
        faultAt("0 0 R", 2);
        faultAt("10 0 R", 3);
        faultAt("1 10 R", 2);
        faultAt("-1 0 R", 3);
        faultAt("1 -1 R", 2);
        faultAt("01 0 R", 3);
        faultAt("1 00 R", 2);
    }

    private static void depths() {
        Paper.says("It has a DEPTH: an array or dictionary 1 more than the greatest of its parts, 1 when it has none; others 1.");
        for (String one : new String[] {"null", "true", "false", "-7", "/a", "(a)", "[]", "<<>>"}) {
            depthOf(one, 1);
            depthOf("[" + one + "]", 2);
            depthOf("<</a 1/b " + one + "/c 2>>", 2);
        }
        depthOf("[1 0 R]", 2);
        depthOf("[[] [[]] []]", 3);
        depthOf("<</a <</a <<>>>>/b []>>", 3);
    }

    private static void deepest() {
        Paper.says("No depth is above 5");
        depthOf("[[[[[]]]]]", 5);
        depthOf("[[[[<<>>]]]]", 5);
        depthOf("[[[[1]]]]", 5);
        depthOf("<</a <</a <</a <</a 1>>>>>>>>", 5);
        faultAt("[[[[[[]]]]]]", 5);
        faultAt("[[[[[1]]]]]", 5);
        faultAt("<</a <</a <</a <</a <</a 1>>>>>>>>>>", 25);
    }

    private static void mostValues() {
        Paper.says("a value is at most 12 VALUES, itself and all parts of parts counted");
        counts("[1 2 3 4 5 6 7 8 9 0 1]", 11);
        counts("[[1 2 3 4] [5 6 7 8] 9]", 3);
        counts("<</a 1/b 2/c 3/d 4/e 5/f 6/g 7/h 8/i 9/j[1]>>", 10);
        counts("[[[[[]]]] [] [] [] [] [] [] []]", 8);
        faultAt("[1 2 3 4 5 6 7 8 9 0 1 2]", 23);
        faultAt("[[1 2 3 4] [5 6 7 8] 9 0]", 23);
        faultAt("<</a 1/b 2/c 3/d 4/e 5/f 6/g 7/h 8/i 9/j[1 2]>>", 43);
        faultAt("[[[[[]]]] [] [] [] [] [] [] [] []]", 31);
    }

    private static void printedWords() {
        Paper.says("PRINTED, a value is: null, true, false");
        reads("null", "null");
        reads("true", "true");
        reads("false", "false");
    }

    private static void printedNumbers() {
        Paper.says("a number in digits without 0 in front, with - if below 0");
        reads("000000", "0");
        reads("-0", "0");
        reads("-000000", "0");
        reads("000001", "1");
        reads("-000001", "-1");
        reads("000010", "10");
        reads("100000", "100000");
        reads("-100000", "-100000");
        reads("909090", "909090");
        reads("099999", "99999");
        reads("999999", "999999");
        reads("-999999", "-999999");
    }

    private static void printedStrings() {
        Paper.says("( , the characters of the string with \\ before each ( , ) and \\ , and )");
        reads("()", "()");
        reads("(()", "(\\()");
        reads("(\\))", "(\\))");
        reads("(\\\\)", "(\\\\)");
        reads("((((((((((((()", "(\\(\\(\\(\\(\\(\\(\\(\\(\\(\\(\\(\\()");
    }

    private static void printedArrays() {
        Paper.says("[ , the parts with a space between two, ]");
        reads("[ ]", "[]");
        reads("[ 1 ]", "[1]");
        reads("[(a)/b[]<<>>]", "[(a) /b [] <<>>]");
        reads("[[[]][]]", "[[[]] []]");
    }

    private static void printedDictionaries() {
        Paper.says("<< , for each part / , its key, a space and the part, with a space between two of these, >>");
        reads("<< >>", "<<>>");
        reads("<</a/b>>", "<</a /b>>");
        reads("<</a[]/b<<>>/c()>>", "<</a [] /b <<>> /c ()>>");
        reads("<</b 1/a 2>>", "<</b 1 /a 2>>");
    }

    private static void printedReferences() {
        Paper.says("the number, a space, the generation, a space and R");
        reads("9\n\n9  R", "9 9 R");
        reads("[1 0 R 2 3 R]", "[1 0 R 2 3 R]");
    }

    public static void main(String[] args) {
        characters();
        numbers();
        namesLengths();
        namesCharacters();
        stringsLengths();
        stringsCharacters();
        keysLengths();
        keysAreDifferent();
        references();
        depths();
        deepest();
        mostValues();
        printedWords();
        printedNumbers();
        printedStrings();
        printedArrays();
        printedDictionaries();
        printedReferences();
        Paper.end();
    }
}
