/** Promises 11 to 14: the file's characters. */
public final class FileTest {
    private static void poke() {
        Paper x = new Paper();
        Paper.due("poke -1", x.poke(-1, 'a'), Paper.BOUNDS);
        Paper.due("poke 1", x.poke(1, 'a'), Paper.BOUNDS);
        Paper.due("poke no character out of bounds", x.poke(1, '\t'), Paper.BOUNDS);
        Paper.due("size", x.size(), 0);
        Paper.due("poke 0", x.poke(0, 'a'), Paper.OK);
        Paper.due("poke 1", x.poke(1, '\n'), Paper.OK);
        Paper.due("poke 2", x.poke(2, '~'), Paper.OK);
        Paper.due("poke 3", x.poke(3, ' '), Paper.OK);
        Paper.due("poke 1 again", x.poke(1, 'b'), Paper.OK);
        Paper.due("poke 0 again", x.poke(0, 'A'), Paper.OK);
        for (char c : new char[] {0, 9, 13, 31, 127, 128, 255, 256 + 'a', 65535}) {
            Paper.due("poke character " + (int) c, x.poke(0, c), Paper.ARGUMENT);
            Paper.due("poke character " + (int) c + " at the end", x.poke(4, c), Paper.ARGUMENT);
        }
        Paper.due("text", x.fileText(), "Ab~ ");
        Paper.due("poke of the least int", x.poke(Integer.MIN_VALUE, 'a'), Paper.BOUNDS);
        Paper.due("poke of the greatest int", x.poke(Integer.MAX_VALUE, 'a'), Paper.BOUNDS);
    }

    private static void cut() {
        Paper x = new Paper();
        Paper.due("cut 1 of nothing", x.cut(1), Paper.BOUNDS);
        Paper.due("cut 0 of nothing", x.cut(0), Paper.OK);
        x.writeFile("abcdef");
        Paper.due("cut -1", x.cut(-1), Paper.BOUNDS);
        Paper.due("cut 7", x.cut(7), Paper.BOUNDS);
        Paper.due("size", x.size(), 6);
        Paper.due("cut 6", x.cut(6), Paper.OK);
        Paper.due("text", x.fileText(), "abcdef");
        Paper.due("cut 2", x.cut(2), Paper.OK);
        Paper.due("text", x.fileText(), "ab");
        Paper.due("cut 3", x.cut(3), Paper.BOUNDS);
        Paper.due("poke 2", x.poke(2, 'x'), Paper.OK);
        Paper.due("text", x.fileText(), "abx");
        Paper.due("cut 0", x.cut(0), Paper.OK);
        Paper.due("size", x.size(), 0);
    }

    private static void character() {
        Paper x = new Paper();
        Paper.due("character 0 of nothing", x.character(0), Paper.BOUNDS);
        x.writeFile("a\n");
        Paper.due("character -1", x.character(-1), Paper.BOUNDS);
        Paper.due("character 0", x.character(0), 97);
        Paper.due("character 1", x.character(1), 10);
        Paper.due("character 2", x.character(2), Paper.BOUNDS);
        x.cut(1);
        Paper.due("character 1 that was cut", x.character(1), Paper.BOUNDS);
    }

    private static void mostCharacters() {
        Paper x = new Paper();
        x.put(1, "1");
        x.root(1);
        x.save(true);
        String answer = x.save(false);
        for (int i = 0; i < 20 && !answer.equals(Paper.UNSUPPORTED); i++) {
            answer = x.save(false);
        }
        int size = Integer.parseInt(x.size());
        for (int i = size; i < 999; i++) {
            Paper.due("poke at the end " + i, x.poke(i, 'x'), Paper.OK);
        }
        Paper.due("size", x.size(), 999);
        Paper.due("poke 999", x.poke(999, 'x'), Paper.ARGUMENT);
        Paper.due("poke no character at 999", x.poke(999, '\t'), Paper.ARGUMENT);
        Paper.due("poke 1000", x.poke(1000, 'x'), Paper.BOUNDS);
        Paper.due("poke 998", x.poke(998, 'y'), Paper.OK);
        Paper.due("character 998", x.character(998), 'y');
        Paper.due("character 999", x.character(999), Paper.BOUNDS);
        Paper.due("cut 999", x.cut(999), Paper.OK);
        Paper.due("cut 1000", x.cut(1000), Paper.BOUNDS);
    }

    private static void theTableStays() {
        Paper x = new Paper();
        x.put(1, "[1]");
        x.root(1);
        x.save(true);
        x.cut(0);
        x.poke(0, 'x');
        Paper.due("state", x.state(1), 1);
        Paper.due("value", x.printedOf(1), "[1]");
        Paper.due("reached", x.reached(), 1);
    }

    public static void main(String[] args) {
        poke();
        cut();
        character();
        mostCharacters();
        theTableStays();
        Paper.end();
    }
}
