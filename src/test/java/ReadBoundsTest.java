/** Reading and the places of its faults: a test for each sentence under "Terms" that names a case of them. */
public final class ReadBoundsTest extends Checks {
    private static void hasLength(String text, int length) {
        Paper x = new Paper();
        Paper.due("put " + text, x.put(1, text), Paper.OK);
        x.go(1);
        Paper.due("value(1) of " + text, x.value(1), length);
    }

    private static void spacesBeforeTokens() {
        Paper.says("SPACES and newlines before TOKENS are left out.");
        reads(" \n \n1", "1");
        reads("\n[\n \n]", "[]");
        reads(" <<  /a \n 1\n\n>> \n", "<</a 1>>");
        reads("[ 1  \n 0\n R ]", "[1 0 R]");
        faultAt("/ a", 0);
        faultAt("[- 1]", 1);
        faultAt("< <>>", 0);
        faultAt("<<> >", 2);
    }

    private static void names() {
        Paper.says("names (/ and as many letters and digits as follow)");
        reads("[/a-1]", "[/a -1]");
        reads("[/a/b]", "[/a /b]");
        reads("[/1 2]", "[/1 2]");
        reads("[/a(b)]", "[/a (b)]");
        reads("<</a<<>>>>", "<</a <<>>>>");
        reads("<</a-1>>", "<</a -1>>");
        faultAt("[/null1234]", 1);
    }

    private static void strings() {
        Paper.says("strings (from ( to the first ) that has no \\ before it that counts");
        reads("[(a)(b)]", "[(a) (b)]");
        reads("(a\\))", "(a\\))");
        reads("(a\\\\)", "(a\\\\)");
        reads("(a\\\\\\))", "(a\\\\\\))");
        faultAt("(a))", 3);
        faultAt("(a\\\\))", 5);
        faultAt("(a\\)", 0);
        faultAt("(a\\\\\\)", 0);
    }

    private static void backslashes() {
        Paper.says("\\ counts with the character behind it, which must be one of ( ) \\");
        for (char c = 32; c < 127; c++) {
            if (c == '(' || c == ')' || c == '\\') {
                hasLength("(\\" + c + ")", 1);
            } else {
                faultAt("(\\" + c + ")", 0);
            }
        }
        faultAt("(\\\n)", 0);
        faultAt("(\\", 0);
        faultAt("[1 (\\\\\\", 3);
    }

    private static void openingsInStrings() {
        Paper.says("a ( without it is a character of the string");
        hasLength("(()", 1);
        hasLength("(((()", 3);
        reads("((a)", "(\\(a)");
        faultAt("(())", 3);
    }

    private static void words() {
        Paper.says("WORDS, as many letters, digits and - as follow one another");
        for (char c = 33; c < 127; c++) {
            boolean goesOn = String.valueOf(c).matches("[-A-Za-z0-9]");
            faultAt("null" + c, goesOn ? 0 : 4);
            faultAt("123456" + c, goesOn ? 0 : 6);
        }
        reads("[null/a true(b)false[]1<<>>-1/b]", "[null /a true (b) false [] 1 <<>> -1 /b]");
        faultAt("[nulltrue]", 1);
        faultAt("[1-1]", 1);
        faultAt("[1 0R]", 3);
        faultAt("[10 R]", 4);
    }

    private static void wordsOfValues() {
        Paper.says("A value is a word null, true or false");
        for (String word : new String[] {"Null", "NULL", "nul", "nulls", "True", "tru", "truth", "falsE", "fals", "falses", "R", "n", "obj"}) {
            faultAt(word, 0);
            faultAt("[1 " + word + "]", 3);
        }
    }

    private static void wordsOfNumbers() {
        Paper.says("a word that is a number (perhaps - , then one to six digits)");
        reads("7", "7");
        reads("-7", "-7");
        reads("123456", "123456");
        reads("-123456", "-123456");
        for (String word : new String[] {"-", "--", "--1", "1-", "-1-", "1234567", "-1234567", "0000000", "-0000001", "12345a", "a1", "-a", "1e5"}) {
            faultAt(word, 0);
            faultAt("[ " + word + "]", 2);
        }
        faultAt("+1", 0);
        faultAt("1.5", 1);
    }

    private static void wordsOfReferences() {
        Paper.says("three words that are a reference (one digit 1 .. 9, one digit, R), when they can be taken so");
        reads("[1 0]", "[1 0]");
        reads("[1 0 2]", "[1 0 2]");
        reads("[1 0 R]", "[1 0 R]");
        reads("[1 2 0 R]", "[1 2 0 R]");
        reads("[1 2 3 0 R 4]", "[1 2 3 0 R 4]");
        reads("[0 1 0 R]", "[0 1 0 R]");
        reads("[1 0 R 0]", "[1 0 R 0]");
        reads("[1 0/R]", "[1 0 /R]");
        reads("<</a 1 0 R/b 2/c 3 4 R>>", "<</a 1 0 R /b 2 /c 3 4 R>>");
        faultAt("[0 0 R]", 5);
        faultAt("[1 0 r]", 5);
        faultAt("[1 0 RR]", 5);
        faultAt("[1 0 R R]", 7);
        faultAt("[1 (0) R]", 7);
        faultAt("[1/0 R]", 5);
        faultAt("[1[0 R]]", 5);
        faultAt("[1 0 []R]", 7);
        faultAt("<</a 1 0/R 1>>", 7);
    }

    private static void aValueAndNoMore() {
        Paper.says("a name; a string; [ , values, ] ; or << , any number of times a name and a value, >>");
        reads("/R", "/R");
        reads("(R)", "(R)");
        reads("[]", "[]");
        reads("<<>>", "<<>>");
        faultAt("]", 0);
        faultAt(">>", 0);
        faultAt("[>>", 1);
        faultAt("<<]", 2);
        faultAt("[1>>", 2);
        faultAt("<</a 1]", 6);
        faultAt("<</a]", 4);
        faultAt("<</a>>", 4);
        faultAt("<</a 1/b>>", 8);
        faultAt("<<1 1>>", 2);
        faultAt("<<(a) 1>>", 2);
        faultAt("<<null 1>>", 2);
        faultAt("<<[] 1>>", 2);
        faultAt("<<<<>> 1>>", 2);
        faultAt("<</a 1 2>>", 7);
    }

    private static void firstToken() {
        Paper.says("Reading has a FAULT at the place of the first token");
        faultAt("[x y]", 1);
        faultAt("[1 /abcdefg x]", 3);
        faultAt("[x", 1);
        faultAt("  \n x", 4);
        faultAt("[1 2 (x]", 5);
        faultAt("<</a x/a 1>>", 5);
        faultAt("<</a 1/a x>>", 6);
    }

    private static void textsEnd() {
        Paper.says("(or of the text's end behind all spaces and newlines)");
        faultAt("", 0);
        faultAt(" ", 1);
        faultAt(" \n \n", 4);
        faultAt("[", 1);
        faultAt("[1 \n ", 5);
        faultAt("<<", 2);
        faultAt("<</a", 4);
        faultAt("<</a \n", 6);
        faultAt("<</a 1", 6);
        faultAt("<</a 1 ", 7);
        faultAt("[[[[[", 5);
        faultAt("[[[[[ ", 6);
        faultAt("[1 2 3 4 5 6 7 8 9 0 1", 22);
        faultAt(" ".repeat(100), 100);
    }

    private static void nothingBegins() {
        Paper.says("nothing of these begins there");
        for (char c = 33; c < 127; c++) {
            if (String.valueOf(c).matches("[^-A-Za-z0-9(/\\[]")) {
                faultAt("" + c, 0);
                faultAt("<</a 1 " + c, 7);
                faultAt("<</a[1 2]/b " + c, 12);
            }
        }
        faultAt("<", 0);
        faultAt("[<]", 1);
        faultAt("[<(a)]", 1);
        faultAt("<</a 1>]", 6);
    }

    private static void wordsThatAreNone() {
        Paper.says("it is a word, name or string that is none (of wrong length too, or not ended)");
        for (String none : new String[] {"x", "-", "1234567", "-1234567", "/", "/abcdefg", "(1234567890123)", "(a", "(", "(\\a)", "(\n)"}) {
            faultAt(none, 0);
            faultAt("[[] " + none, 4);
            faultAt("<</a " + none, 5);
        }
    }

    private static void keysThatAreThere() {
        Paper.says("it is a key that is there already");
        faultAt("<</a 1/a 2>>", 6);
        faultAt("<</a 1 \n /a", 9);
        faultAt("<</a<</b 1>>/b 2/b 3>>", 16);
        faultAt("<</a<</b 1/b 2>>>>", 10);
        faultAt("[<</a 1>><</a 2/a 3>>]", 15);
        reads("<</a<</b 1>>/b 2>>", "<</a <</b 1>> /b 2>>");
    }

    private static void tooDeep() {
        Paper.says("(an array or dictionary within five others is met at its [ or <<; any other value within five too)");
        for (String one : new String[] {"[", "<<", "[]", "<<>>", "null", "true", "false", "1", "/a", "(a)", "1 0 R", "x", "/", "("}) {
            faultAt("[[[[[" + one, 5);
            faultAt("[[[[[ " + one, 6);
            faultAt("[[[[<</a " + one, 9);
            faultAt("[[][[[[" + one, 7);
        }
        reads("[[[[[]<<>>1 2 0 R]]]]", "[[[[[] <<>> 1 2 0 R]]]]");
        reads("[[[[]]][[[[]]]]]", "[[[[]]] [[[[]]]]]");
    }

    private static void tooMany() {
        Paper.says("or a 13th value");
        String twelve = "[1 2 3 4 5 6 7 8 9 0 1";
        reads(twelve + "]", twelve + "]");
        for (String one : new String[] {"[", "<<", "[]", "<<>>", "null", "true", "false", "1", "/a", "(a)", "1 0 R", "x", "/", "("}) {
            faultAt(twelve + " " + one, 23);
        }
        reads("[1 2 3 4 5 6 7 8 9 0 1 0 R]", "[1 2 3 4 5 6 7 8 9 0 1 0 R]");
        reads("<</a[1 2 3 4 5 6 7 8 9]/b 1>>", "<</a [1 2 3 4 5 6 7 8 9] /b 1>>");
        faultAt("<</a[1 2 3 4 5 6 7 8 9]/b 1/c 2>>", 30);
        faultAt("<</a[1 2 3 4 5 6 7 8 9 0]/b 1>>", 28);
    }

    private static void nothingStays() {
        Paper.says("A call that throws changes nothing but what is said");
        for (String before : new String[] {"<</a", "<</a x", "[[[[[1", "[1 2 3 4 5 6 7 8 9 0 1 2", "[(abc", "1 0 R R", "<</a 1/a"}) {
            Paper x = new Paper();
            x.put(1, before);
            Paper.due("put behind a fault in " + before, x.put(1, "[1 <</a 2 0 R>> (b)]"), Paper.OK);
            Paper.due("printed", x.printedOf(1), "[1 <</a 2 0 R>> (b)]");
        }
    }

    private static void behindTheValue() {
        Paper.says("IllegalArgumentException when reading has a fault (something behind the value is one, at its token)");
        reads("1 \n\n ", "1");
        reads("1" + " ".repeat(99), "1");
        for (String more : new String[] {"2", "x", "]", ">>", "%", "/a", "(", "[", "<<>>"}) {
            faultAt("[]" + more, 2);
            faultAt("1 \n " + more, 4);
        }
        faultAt("1 0 R R", 6);
        faultAt("1 0 1 0 R", 2);
    }

    public static void main(String[] args) {
        spacesBeforeTokens();
        names();
        strings();
        backslashes();
        openingsInStrings();
        words();
        wordsOfValues();
        wordsOfNumbers();
        wordsOfReferences();
        aValueAndNoMore();
        firstToken();
        textsEnd();
        nothingBegins();
        wordsThatAreNone();
        keysThatAreThere();
        tooDeep();
        tooMany();
        nothingStays();
        behindTheValue();
        Paper.end();
    }
}
