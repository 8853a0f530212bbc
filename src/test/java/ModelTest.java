import java.util.Random;
import java.util.function.ToLongFunction;

/**
 * Runs of calls that a seed chooses, on the program and on the model at once: their answers have to be
 * the same, and no exception but those of the document may come. Arguments: how many runs, the first seed.
 */
public final class ModelTest {
    /** The calls of a run that change something or ask at random; looking at all that is left takes the rest of 512. */
    private static final int CALLS = 300;
    private static final String[] KEYS = {"A", "B", "Length", "Root", "Prev", "a1", "Zz9999"};
    private static final String[] SPACES = {" ", " ", " ", "\n", "  ", " \n "};
    private static final String NOISE = "[]<>/()\\ \n-019Rnullx~%";

    private final Random random;
    private final long seed;
    private final PaperObjects program = new PaperObjects();
    private final Model model = new Model();
    private final StringBuilder story = new StringBuilder();
    /** What kind of run it is: how often it saves anew, and how often it spoils its file. */
    private final int anewInTen;
    private final int pokesInTen;
    private int calls = 0;
    private boolean same = true;

    private ModelTest(long seed) {
        this.seed = seed;
        random = new Random(seed);
        anewInTen = random.nextInt(8);
        pokesInTen = random.nextInt(8);
    }

    private static String answer(ToLongFunction<Object> call, Object object) {
        try {
            return Long.toString(call.applyAsLong(object));
        } catch (RuntimeException e) {
            return e.getClass().getName();
        }
    }

    private String both(String name, ToLongFunction<PaperObjects> ofProgram, ToLongFunction<Model> ofModel) {
        calls++;
        String got = answer(x -> ofProgram.applyAsLong(program), program);
        String want = answer(x -> ofModel.applyAsLong(model), model);
        story.append("  ").append(name).append(" -> ").append(want).append('\n');
        if (!got.equals(want)) {
            same = false;
            System.out.println("seed " + seed + "\n" + story + "  the last call answered " + got);
            System.out.println("the file:\n" + model.file());
        }
        return want;
    }

    private void type(String text) {
        for (int i = 0; i < text.length(); i += 8) {
            String part = text.substring(i, Math.min(i + 8, text.length()));
            long packed = Paper.pack(part);
            both("type " + part, x -> x.type(packed), x -> x.type(packed));
        }
    }

    private void put(int n) {
        both("put " + n, x -> { x.put(n); return 0; }, x -> { x.put(n); return 0; });
        both("at", x -> x.at(), x -> x.at());
    }

    private void content(int n) {
        both("content " + n, x -> { x.content(n); return 0; }, x -> { x.content(n); return 0; });
    }

    private void poke(int i, char c) {
        both("poke " + i + " " + c, x -> { x.poke(i, c); return 0; }, x -> { x.poke(i, c); return 0; });
    }

    private void cut(int n) {
        both("cut " + n, x -> { x.cut(n); return 0; }, x -> { x.cut(n); return 0; });
    }

    private void load() {
        both("load", x -> x.load(), x -> x.load());
        both("at", x -> x.at(), x -> x.at());
        both("fault", x -> x.fault(), x -> x.fault());
    }

    private String go(int n) {
        return both("go " + n, x -> x.go(n), x -> x.go(n));
    }

    private String space() {
        return SPACES[random.nextInt(SPACES.length)];
    }

    private int number() {
        return random.nextInt(20) == 0 ? random.nextInt(14) - 2 : 1 + random.nextInt(9);
    }

    private int numberInUse() {
        int number = number();
        for (int i = 0; i < 20 && (number < 1 || number > 9 || model.state(number) % 2 == 0) && random.nextInt(20) > 0; i++) {
            number = 1 + random.nextInt(9);
        }
        return number;
    }

    private String reference() {
        int generation = random.nextInt(4) == 0 ? random.nextInt(4) : 0;
        return (1 + random.nextInt(random.nextBoolean() ? 9 : 4)) + space() + generation + space() + "R";
    }

    private String string() {
        StringBuilder made = new StringBuilder("(");
        int letters = random.nextInt(random.nextInt(4) == 0 ? 15 : 5);
        for (int i = 0; i < letters; i++) {
            char c = (char) (32 + random.nextInt(95));
            made.append(c == ')' || c == '\\' ? "\\" + c : random.nextInt(6) == 0 ? "\\(" : "" + c);
        }
        return made.append(')').toString();
    }

    private String text(int depth) {
        switch (random.nextInt(depth > 5 ? 8 : 13)) {
            case 0: return "null";
            case 1: return random.nextBoolean() ? "true" : "false";
            case 2: return "" + (random.nextInt(2000001) - 1000000);
            case 3: return "" + (random.nextInt(16) - 1);
            case 4: return "/" + KEYS[random.nextInt(KEYS.length)];
            case 5: return string();
            case 6:
            case 7: return reference();
            case 8:
            case 9: return array(depth);
            default: return dictionary(depth);
        }
    }

    private String array(int depth) {
        StringBuilder made = new StringBuilder("[");
        int parts = random.nextInt(random.nextInt(5) == 0 ? 13 : 4);
        for (int i = 0; i < parts; i++) {
            made.append(i == 0 ? "" : space()).append(text(depth + 1));
        }
        return made.append(random.nextInt(4) == 0 ? " ]" : "]").toString();
    }

    private String dictionary(int depth) {
        StringBuilder made = new StringBuilder("<<");
        int parts = random.nextInt(4);
        for (int i = 0; i < parts; i++) {
            made.append(i == 0 ? "" : space()).append('/').append(KEYS[random.nextInt(KEYS.length)]);
            made.append(space()).append(random.nextInt(3) == 0 ? reference() : text(depth + 1));
        }
        return made.append(">>").toString();
    }

    private String spoiled(String text) {
        if (text.isEmpty() || random.nextInt(5) > 0) {
            return text;
        }
        int place = random.nextInt(text.length());
        char c = NOISE.charAt(random.nextInt(NOISE.length()));
        return text.substring(0, place) + c + text.substring(place + random.nextInt(2));
    }

    private String draft() {
        switch (random.nextInt(6)) {
            case 0: return reference();
            case 1: return "" + random.nextInt(13);
            case 2: return "<</Length " + reference() + ">>";
            default: return space() + text(1) + (random.nextBoolean() ? "" : space());
        }
    }

    private void pokeSomething() {
        int size = model.size();
        int place = size == 0 ? 0 : random.nextInt(30) == 0 ? size + random.nextInt(3) - 1 : random.nextInt(size);
        // Digits, keys and kinds are what makes another file out of a file.
        for (int i = 0; i < 40 && size > 0 && random.nextInt(4) > 0; i++) {
            int c = place < size ? model.file().charAt(place) : ' ';
            if ((c >= '0' && c <= '9') || c == 'n' || c == 'f') {
                break;
            }
            place = random.nextInt(size);
        }
        char now = place >= 0 && place < size ? model.file().charAt(place) : ' ';
        char c = now >= '0' && now <= '9' ? (char) ('0' + random.nextInt(10))
            : now == 'n' ? 'f' : now == 'f' ? 'n' : (char) random.nextInt(random.nextInt(9) == 0 ? 300 : 128);
        poke(place, c);
    }

    private void look() {
        int i = random.nextInt(8) - 1;
        switch (random.nextInt(4)) {
            case 0: both("reached", x -> x.reached(), x -> x.reached()); break;
            case 1: both("state " + i, x -> x.state(i), x -> x.state(i)); break;
            case 2: both("character " + 3 * i, x -> x.character(3 * i), x -> x.character(3 * i)); break;
            default: walk(); break;
        }
    }

    private void walk() {
        if (random.nextInt(5) > 0) {
            go(numberInUse());
        }
        for (int step = random.nextInt(6); step >= 0; step--) {
            int i = random.nextInt(4) - (random.nextInt(5) == 0 ? 1 : 0);
            switch (random.nextInt(7)) {
                case 0: case 1: case 2: both("into " + i, x -> x.into(i), x -> x.into(i)); break;
                case 3: case 4: both("follow", x -> x.follow(), x -> x.follow()); break;
                case 5: both("value " + i, x -> x.value(i), x -> x.value(i)); break;
                default: both("printed " + i, x -> x.printed(i), x -> x.printed(i)); break;
            }
        }
    }

    private void step() {
        int n = number();
        int m = numberInUse();
        switch (random.nextInt(22)) {
            case 0: case 1: case 2: case 3: case 4: type(spoiled(draft())); put(n); break;
            case 5: if (random.nextInt(9) == 0) { type(draft()); } break;
            case 6: case 7: case 8: type(random.nextInt(7) == 0 ? "a\nb" : "contents number".substring(random.nextInt(16))); content(m); break;
            case 9: both("free " + m, x -> { x.free(m); return 0; }, x -> { x.free(m); return 0; }); break;
            case 10: case 11: both("root " + m, x -> { x.root(m); return 0; }, x -> { x.root(m); return 0; }); break;
            case 12: case 13: case 14: boolean anew = random.nextInt(10) < anewInTen; both("save " + anew, x -> x.save(anew), x -> x.save(anew)); break;
            case 15: load(); break;
            case 16: if (random.nextInt(10) < pokesInTen) { pokeSomething(); load(); } break;
            case 17: if (random.nextInt(10) < pokesInTen) { cut(random.nextInt(model.size() + 3) - 1); } break;
            case 18: long bytes = random.nextLong(); both("type " + bytes, x -> x.type(bytes), x -> x.type(bytes)); break;
            default: look(); break;
        }
    }

    private void lookAtAll() {
        for (int number = 1; number <= 9; number++) {
            int n = number;
            both("state " + n, x -> x.state(n), x -> x.state(n));
            go(n);
            both("value 2", x -> x.value(2), x -> x.value(2));
            for (int i = random.nextInt(8); i < 99; i += 11) {
                int k = i;
                both("printed " + k, x -> x.printed(k), x -> x.printed(k));
            }
        }
        both("size", x -> x.size(), x -> x.size());
        for (int i = random.nextInt(13); i < model.size(); i += 13) {
            int k = i;
            both("character " + k, x -> x.character(k), x -> x.character(k));
        }
    }

    /** A file as somebody else might have written it: tables, gaps and texts by chance. */
    private String strangeFile() {
        StringBuilder made = new StringBuilder(random.nextBoolean() ? "%PAPER\n" : "");
        int objects = 1 + random.nextInt(5);
        StringBuilder entries = new StringBuilder();
        int first = 1 + random.nextInt(3);
        for (int i = 0; i < objects; i++) {
            int generation = random.nextInt(5) == 0 ? 1 : 0;
            boolean used = random.nextInt(6) > 0;
            int place = random.nextInt(12) == 0 ? random.nextInt(1000) : made.length();
            entries.append(String.format("%03d %d %s\n", place, generation, used ? "n" : "f"));
            made.append(first + i).append(' ').append(generation).append(" obj\n").append(strangeText());
            made.append(random.nextInt(9) == 0 ? "" : "endobj\n");
        }
        int place = made.length();
        String prev = random.nextInt(4) == 0 ? " /Prev " + (random.nextInt(3) > 0 ? place : random.nextInt(20) - 5) : "";
        made.append("xref\n").append(first).append(' ').append(objects).append('\n').append(entries);
        made.append("trailer\n<</Root ").append(reference()).append(prev).append(">>\n");
        if (random.nextInt(3) == 0) {
            int latest = made.length();
            made.append("xref\n").append(random.nextBoolean() ? "" : "2 1\n000 3 f\n");
            made.append("trailer\n<</Prev ").append(place).append("/Root ").append(reference()).append(">>\n");
            place = latest;
        }
        return spoiled(made.append("startxref\n").append(place).append("\n%%EOF\n").toString());
    }

    private String strangeText() {
        switch (random.nextInt(6)) {
            case 0: return text(2) + "\n";
            case 1: return random.nextInt(5) + "\n";
            case 2: return reference() + "\n";
            default:
        }
        int length = random.nextInt(random.nextInt(5) == 0 ? 14 : 5);
        String said = random.nextInt(3) == 0 ? "" + length : reference();
        return "<</Length " + said + ">>\nstream\n" + "abcdefghijklmn".substring(0, length) + "\nendstream\n";
    }

    private boolean run() {
        if (random.nextInt(3) == 0) {
            String text = strangeFile();
            for (int i = 0; i < text.length() && calls < CALLS; i++) {
                poke(i, text.charAt(i));
            }
            load();
        }
        while (same && calls < CALLS) {
            step();
        }
        lookAtAll();
        return same;
    }

    public static void main(String[] args) {
        int runs = args.length > 0 ? Integer.parseInt(args[0]) : 3000;
        long first = args.length > 1 ? Long.parseLong(args[1]) : 1;
        for (long seed = first; seed < first + runs; seed++) {
            if (!new ModelTest(seed).run()) {
                System.exit(1);
            }
        }
        System.out.println(runs + " runs are as the model says");
    }
}
