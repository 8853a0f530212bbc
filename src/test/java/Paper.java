import java.util.function.Consumer;
import java.util.function.ToLongFunction;

/** One object under test: calls are answered as texts, exceptions by their names, wrong answers are told. */
final class Paper {
    static final String OK = "ok";
    static final String BOUNDS = "IndexOutOfBoundsException";
    static final String STATE = "IllegalStateException";
    static final String ARGUMENT = "IllegalArgumentException";
    static final String ELEMENT = "NoSuchElementException";
    static final String UNSUPPORTED = "UnsupportedOperationException";

    /** The document says nothing of what calls behind these answer. */
    private static final int MOST_CALLS = 512;
    private static int wrong = 0;
    private static String sentence = "";

    private final PaperObjects objects = new PaperObjects();
    private int calls = 0;

    /** The words of the document that the answers from here on are about; told with each that is wrong. */
    static void says(String words) {
        sentence = "the document says: " + words + "\n";
    }

    static void due(String what, String got, String want) {
        if (!got.equals(want)) {
            wrong++;
            System.out.println(sentence + what + "\n  answered " + got + "\n  due is   " + want);
        }
    }

    static void due(String what, String got, long want) {
        due(what, got, Long.toString(want));
    }

    static void end() {
        System.out.println(wrong == 0 ? "all answers are as due" : wrong + " answers are not as due");
        if (wrong != 0) {
            System.exit(1);
        }
    }

    String ask(ToLongFunction<PaperObjects> call) {
        calls++;
        if (calls > MOST_CALLS) {
            throw new AssertionError("this test makes more calls than the document speaks of");
        }
        try {
            return Long.toString(call.applyAsLong(objects));
        } catch (RuntimeException e) {
            return e.getClass().getSimpleName();
        }
    }

    String tell(Consumer<PaperObjects> call) {
        String answer = ask(x -> {
            call.accept(x);
            return 0;
        });
        return answer.equals("0") ? OK : answer;
    }

    static long pack(String letters) {
        long packed = 0;
        for (int i = 0; i < letters.length(); i++) {
            packed |= (letters.charAt(i) & 255L) << (8 * i);
        }
        return packed;
    }

    /** The answer of the last type, or of the first that throws. */
    String type(String text) {
        String answer = ask(x -> x.type(0));
        for (int i = 0; i < text.length(); i += 8) {
            long part = pack(text.substring(i, Math.min(i + 8, text.length())));
            answer = ask(x -> x.type(part));
            if (answer.equals(ARGUMENT)) {
                return answer;
            }
        }
        return answer;
    }

    String put(int number, String text) {
        type(text);
        return put(number);
    }

    String put(int number) {
        return tell(x -> x.put(number));
    }

    String content(int number, String text) {
        type(text);
        return tell(x -> x.content(number));
    }

    String free(int number) {
        return tell(x -> x.free(number));
    }

    String root(int number) {
        return tell(x -> x.root(number));
    }

    String save(boolean anew) {
        return ask(x -> x.save(anew));
    }

    String load() {
        return ask(PaperObjects::load);
    }

    String at() {
        return ask(PaperObjects::at);
    }

    String fault() {
        return ask(PaperObjects::fault);
    }

    String poke(int i, char c) {
        return tell(x -> x.poke(i, c));
    }

    String cut(int n) {
        return tell(x -> x.cut(n));
    }

    String size() {
        return ask(PaperObjects::size);
    }

    String character(int i) {
        return ask(x -> x.character(i));
    }

    String state(int number) {
        return ask(x -> x.state(number));
    }

    String states() {
        StringBuilder all = new StringBuilder();
        for (int number = 1; number <= 9; number++) {
            all.append(number == 1 ? "" : " ").append(state(number));
        }
        return all.toString();
    }

    String go(int number) {
        return ask(x -> x.go(number));
    }

    String into(int i) {
        return ask(x -> x.into(i));
    }

    String follow() {
        return ask(PaperObjects::follow);
    }

    String value(int what) {
        return ask(x -> x.value(what));
    }

    String printed(int i) {
        return ask(x -> x.printed(i));
    }

    String printed() {
        StringBuilder all = new StringBuilder();
        int c = Integer.parseInt(printed(0));
        while (c != -1) {
            all.append((char) c);
            int next = all.length();
            c = Integer.parseInt(printed(next));
        }
        return all.toString();
    }

    /** The value of an object as it is printed. */
    String printedOf(int number) {
        String kind = go(number);
        return kind.equals(ELEMENT) ? kind : printed();
    }

    String reached() {
        return ask(PaperObjects::reached);
    }

    String fileText() {
        return fileTextFrom(0);
    }

    String fileTextFrom(int place) {
        StringBuilder all = new StringBuilder();
        int size = Integer.parseInt(size());
        for (int i = Math.max(0, place); i < size; i++) {
            all.append((char) Integer.parseInt(character(i)));
        }
        return all.toString();
    }

    /** How long a file is that is saved anew, with texts of objects of a length in all. */
    static int anewLength(int objects) {
        int place = "%PAPER\n".length() + objects;
        return place + "xref\n1 9\n".length() + 9 * "000 0 f\n".length() + "trailer\n<</Root 1 0 R>>\n".length()
            + ("startxref\n" + place + "\n%%EOF\n").length();
    }

    void writeFile(String text) {
        cut(0);
        for (int i = 0; i < text.length(); i++) {
            poke(i, text.charAt(i));
        }
    }

    /** What load answers, or its fault and the place of that. */
    String loaded() {
        String answer = load();
        return answer.equals(ARGUMENT) ? fault() + " at " + at() : answer;
    }
}
