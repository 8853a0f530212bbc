import java.util.ArrayList;
import java.util.HashMap;
import java.util.HashSet;
import java.util.LinkedHashMap;
import java.util.List;
import java.util.Map;
import java.util.NoSuchElementException;
import java.util.Set;
import java.util.TreeMap;
import java.util.TreeSet;
import java.util.regex.Matcher;
import java.util.regex.Pattern;

/** The document once more, said with all of Java's library, for runs that nobody has worked out by hand. */
final class Model {
    private static final class Value {
        int kind;
        int number;
        int generation;
        String text = "";
        final List<Value> parts = new ArrayList<>();
        final List<String> keys = new ArrayList<>();

        int depth() {
            int greatest = 0;
            for (Value part : parts) {
                greatest = Math.max(greatest, part.depth());
            }
            return greatest + 1;
        }

        int values() {
            int sum = 1;
            for (Value part : parts) {
                sum += part.values();
            }
            return sum;
        }

        Value get(String key) {
            int i = keys.indexOf(key);
            return i < 0 ? null : parts.get(i);
        }

        String print() {
            switch (kind) {
                case 0: return "null";
                case 1: return "true";
                case 2: return "false";
                case 3: return "" + number;
                case 4: return "/" + text;
                case 5: return "(" + text.replaceAll("[()\\\\]", "\\\\$0") + ")";
                case 8: return number + " " + generation + " R";
                default:
            }
            List<String> printed = new ArrayList<>();
            for (int i = 0; i < parts.size(); i++) {
                printed.add((kind == 7 ? "/" + keys.get(i) + " " : "") + parts.get(i).print());
            }
            return (kind == 7 ? "<<" : "[") + String.join(" ", printed) + (kind == 7 ? ">>" : "]");
        }

        void references(List<Value> into) {
            if (kind == 8) {
                into.add(this);
            }
            for (Value part : parts) {
                part.references(into);
            }
        }
    }

    private static final class Thing {
        boolean used;
        int generation;
        boolean changed;
        Value value;
        String contents;
    }

    private static final class Fault extends Exception {
        private static final long serialVersionUID = 1;
        final int kind;
        final int place;

        Fault(int kind, int place) {
            this.kind = kind;
            this.place = place;
        }
    }

    private static final class Parser {
        private static final Pattern TOKEN = Pattern.compile(
            "\\[|\\]|<<|>>|/[A-Za-z0-9]*|\\((?:[^()\\\\]|\\(|\\\\[()\\\\])*\\)|[-A-Za-z0-9]+", Pattern.DOTALL);
        final String text;
        int place;
        int values = 0;

        Parser(String text, int place) {
            this.text = text;
            this.place = place;
        }

        void skip() {
            while (place < text.length() && " \n".indexOf(text.charAt(place)) >= 0) {
                place++;
            }
        }

        String peek() {
            skip();
            Matcher m = TOKEN.matcher(text).region(place, text.length());
            return m.lookingAt() ? m.group() : "";
        }

        Fault here() {
            return new Fault(0, place);
        }

        String name() throws Fault {
            String token = peek();
            if (!token.matches("/[A-Za-z0-9]{1,6}")) {
                throw here();
            }
            return token.substring(1);
        }

        Value value(int level) throws Fault {
            String token = peek();
            values++;
            if (token.isEmpty() || level > 5 || values > 12) {
                throw here();
            }
            Value value = new Value();
            Matcher reference = Pattern.compile("([1-9])[ \n]+([0-9])[ \n]+R(?![-A-Za-z0-9])").matcher(text).region(place, text.length());
            if (reference.lookingAt()) {
                value.kind = 8;
                value.number = Integer.parseInt(reference.group(1));
                value.generation = Integer.parseInt(reference.group(2));
                place = reference.end();
                return value;
            }
            if (token.equals("[")) {
                value.kind = 6;
                place += 1;
                while (!peek().equals("]")) {
                    value.parts.add(value(level + 1));
                }
                place += 1;
                return value;
            }
            if (token.equals("<<")) {
                value.kind = 7;
                place += 2;
                while (!peek().equals(">>")) {
                    String key = name();
                    if (value.keys.contains(key)) {
                        throw here();
                    }
                    place += key.length() + 1;
                    value.keys.add(key);
                    value.parts.add(value(level + 1));
                }
                place += 2;
                return value;
            }
            if (token.startsWith("/")) {
                value.kind = 4;
                value.text = name();
            } else if (token.startsWith("(")) {
                value.kind = 5;
                value.text = token.substring(1, token.length() - 1).replaceAll("\\\\(.)", "$1");
                if (value.text.length() > 12 || value.text.contains("\n")) {
                    throw here();
                }
            } else if (token.matches("-?[0-9]{1,6}")) {
                value.kind = 3;
                value.number = Integer.parseInt(token);
            } else {
                value.kind = List.of("null", "true", "false").indexOf(token);
                if (value.kind < 0) {
                    throw here();
                }
            }
            place += token.length();
            return value;
        }
    }

    private static final class Table {
        final Thing[] things = new Thing[10];
        Value root;

        Table() {
            for (int i = 0; i < 10; i++) {
                things[i] = new Thing();
            }
        }

        Thing meant(Value reference) {
            Thing thing = things[reference.number];
            return thing.used && thing.generation == reference.generation ? thing : null;
        }

        /** Null for a cycle. */
        Value resolve(Value value) {
            Set<Thing> met = new HashSet<>();
            while (value.kind == 8) {
                Thing thing = meant(value);
                if (thing == null) {
                    return new Value();
                }
                if (!met.add(thing)) {
                    return null;
                }
                value = thing.value;
            }
            return value;
        }

        Set<Integer> reached() {
            Set<Integer> found = new TreeSet<>();
            List<Value> open = new ArrayList<>();
            if (root != null) {
                open.add(root);
            }
            while (!open.isEmpty()) {
                Value reference = open.remove(open.size() - 1);
                Thing thing = meant(reference);
                if (thing != null && found.add(reference.number)) {
                    thing.value.references(open);
                }
            }
            return found;
        }
    }

    private Table table = new Table();
    private String draft = "";
    private String file = "";
    private Value cursor;
    private int at = -1;
    private int fault = 0;

    int type(long text) {
        StringBuilder added = new StringBuilder();
        for (int i = 0; i < 8 && (text >>> 8 * i & 255) != 0; i++) {
            added.append((char) (text >>> 8 * i & 255));
        }
        if (!added.toString().matches("[ -~\n]*") || draft.length() + added.length() > 100) {
            throw new IllegalArgumentException();
        }
        draft += added;
        return draft.length();
    }

    private Thing inUse(int number) {
        if (number < 1 || number > 9 || !table.things[number].used) {
            throw new NoSuchElementException();
        }
        return table.things[number];
    }

    void put(int number) {
        if (number < 1 || number > 9) {
            throw new IndexOutOfBoundsException();
        }
        Thing thing = table.things[number];
        if (!thing.used && thing.generation == 9) {
            throw new IllegalStateException();
        }
        String text = draft;
        draft = "";
        Parser parser = new Parser(text, 0);
        try {
            Value value = parser.value(1);
            parser.skip();
            if (parser.place < text.length()) {
                throw parser.here();
            }
            thing.value = value;
        } catch (Fault f) {
            at = f.place;
            throw new IllegalArgumentException();
        }
        thing.used = true;
        thing.contents = null;
        thing.changed = true;
        at = -1;
        cursor = null;
    }

    void content(int number) {
        Thing thing = inUse(number);
        Value value = thing.value;
        if (value.kind != 7 || (value.get("Length") == null && value.values() == 12)) {
            throw new IllegalStateException();
        }
        if (draft.contains("\n") || draft.length() > 12) {
            at = 0;
            throw new IllegalArgumentException();
        }
        Value length = new Value();
        length.kind = 3;
        length.number = draft.length();
        if (value.get("Length") == null) {
            value.keys.add("Length");
            value.parts.add(length);
        } else if (value.get("Length").kind != 8) {
            value.parts.set(value.keys.indexOf("Length"), length);
        }
        thing.contents = draft;
        thing.changed = true;
        draft = "";
        at = -1;
        cursor = null;
    }

    void free(int number) {
        release(inUse(number));
        cursor = null;
    }

    private static void release(Thing thing) {
        thing.used = false;
        thing.changed = true;
        thing.generation = Math.min(9, thing.generation + 1);
        thing.value = null;
        thing.contents = null;
    }

    void root(int number) {
        Thing thing = inUse(number);
        table.root = new Value();
        table.root.kind = 8;
        table.root.number = number;
        table.root.generation = thing.generation;
    }

    private static int tail(String file) {
        Matcher m = Pattern.compile("startxref\n([0-9]{1,3})\n%%EOF\n\\z").matcher(file);
        return m.find() ? Integer.parseInt(m.group(1)) : -1;
    }

    int save(boolean anew) {
        if (table.root == null || (!anew && tail(file) < 0)) {
            throw new IllegalStateException();
        }
        Set<Integer> reached = table.reached();
        Map<Integer, String> entries = new TreeMap<>();
        StringBuilder out = new StringBuilder(anew ? "%PAPER\n" : file);
        for (int n = 1; n <= 9; n++) {
            Thing thing = table.things[n];
            if (anew ? reached.contains(n) : thing.changed && thing.used) {
                entries.put(n, String.format("%03d %d n\n", out.length(), thing.generation));
                out.append(n + " " + thing.generation + " obj\n" + thing.value.print() + "\n");
                if (thing.contents != null) {
                    Value length = table.resolve(thing.value.get("Length"));
                    if (length == null || length.kind != 3 || length.number != thing.contents.length()) {
                        throw new IllegalStateException();
                    }
                    out.append("stream\n" + thing.contents + "\nendstream\n");
                }
                out.append("endobj\n");
            } else if (anew || thing.changed) {
                entries.put(n, String.format("000 %d f\n", Math.min(9, thing.generation + (thing.used ? 1 : 0))));
            }
        }
        int place = out.length();
        out.append("xref\n");
        for (int n = 1; n <= 9; n++) {
            if (entries.containsKey(n)) {
                StringBuilder run = new StringBuilder();
                int first = n;
                for (; entries.containsKey(n); n++) {
                    run.append(entries.get(n));
                }
                out.append(first + " " + (n - first) + "\n" + run);
            }
        }
        out.append("trailer\n<</Root " + table.root.print() + (anew ? "" : " /Prev " + tail(file)) + ">>\n");
        out.append("startxref\n" + place + "\n%%EOF\n");
        if (out.length() > 999) {
            throw new UnsupportedOperationException();
        }
        for (int n = 1; n <= 9; n++) {
            Thing thing = table.things[n];
            if (anew && thing.used && !reached.contains(n)) {
                release(thing);
            }
            thing.changed = false;
        }
        file = out.toString();
        cursor = null;
        return file.length();
    }

    int load() {
        try {
            table = loaded();
        } catch (Fault f) {
            fault = f.kind;
            at = f.place;
            throw new IllegalArgumentException();
        }
        at = -1;
        cursor = null;
        int used = 0;
        for (Thing thing : table.things) {
            used += thing.used ? 1 : 0;
        }
        return used;
    }

    private Table loaded() throws Fault {
        Table made = new Table();
        int place = tail(file);
        if (place < 0) {
            throw new Fault(1, 0);
        }
        Map<Integer, String> entries = new HashMap<>();
        Set<Integer> places = new HashSet<>();
        while (true) {
            if (place < 0 || place >= file.length() || !places.add(place)) {
                throw new Fault(2, place);
            }
            Value trailer = table(place, entries);
            if (made.root == null) {
                made.root = trailer.get("Root");
            }
            if (trailer.get("Prev") == null) {
                break;
            }
            place = trailer.get("Prev").number;
        }
        int[] starts = new int[10];
        for (int n = 1; n <= 9; n++) {
            String entry = entries.getOrDefault(n, "000 0 f\n");
            starts[n] = Integer.parseInt(entry.substring(0, 3));
            made.things[n].generation = entry.charAt(4) - '0';
            made.things[n].used = entry.charAt(6) == 'n';
        }
        Map<Integer, Value> values = new LinkedHashMap<>();
        for (int n = 1; n <= 9; n++) {
            if (made.things[n].used) {
                Thing thing = made.things[n];
                Parser parser = parser(made, n, starts);
                values.put(n, value(parser, starts[n]));
                String rest = file.substring(parser.place);
                if (rest.startsWith("\nstream\n")) {
                    if (values.get(n).kind != 7) {
                        throw new Fault(3, starts[n]);
                    }
                    int length = length(made, values.get(n), starts, starts[n]);
                    Matcher m = Pattern.compile("\nstream\n([ -~]{" + length + "})\nendstream\nendobj\n").matcher(rest);
                    if (!m.lookingAt()) {
                        throw new Fault(3, starts[n]);
                    }
                    thing.contents = m.group(1);
                } else if (!rest.startsWith("\nendobj\n")) {
                    throw new Fault(3, starts[n]);
                }
            }
        }
        values.forEach((n, value) -> made.things[n].value = value);
        return made;
    }

    private Value table(int place, Map<Integer, String> entries) throws Fault {
        Matcher head = Pattern.compile("xref\n((?:[1-9] [1-9]\n(?:[0-9]{3} [0-9] [nf]\n)+)*)trailer\n").matcher(file).region(place, file.length());
        if (!head.lookingAt()) {
            throw new Fault(2, place);
        }
        int left = 0;
        int number = 0;
        for (String line : head.group(1).isEmpty() ? new String[0] : head.group(1).split("\n")) {
            if (line.length() == 3) {
                if (left != 0) {
                    throw new Fault(2, place);
                }
                number = line.charAt(0) - '0';
                left = line.charAt(2) - '0';
            } else {
                if (left == 0 || number > 9) {
                    throw new Fault(2, place);
                }
                entries.putIfAbsent(number, line);
                number++;
                left--;
            }
        }
        if (left != 0) {
            throw new Fault(2, place);
        }
        Value trailer;
        try {
            trailer = new Parser(file, head.end()).value(1);
        } catch (Fault f) {
            throw new Fault(2, place);
        }
        Value root = trailer.get("Root");
        Value prev = trailer.get("Prev");
        if (root == null || root.kind != 8 || (prev != null && prev.kind != 3)) {
            throw new Fault(2, place);
        }
        return trailer;
    }

    private Parser parser(Table made, int number, int[] starts) throws Fault {
        String head = number + " " + made.things[number].generation + " obj\n";
        if (!file.startsWith(head, starts[number])) {
            throw new Fault(3, starts[number]);
        }
        return new Parser(file, starts[number] + head.length());
    }

    private static Value value(Parser parser, int start) throws Fault {
        try {
            return parser.value(1);
        } catch (Fault f) {
            throw new Fault(3, start);
        }
    }

    private int length(Table made, Value dictionary, int[] starts, int start) throws Fault {
        Value length = dictionary.get("Length");
        Set<Integer> met = new HashSet<>();
        while (length != null && length.kind == 8) {
            int number = length.number;
            if (made.meant(length) == null || !met.add(number)) {
                throw new Fault(4, start);
            }
            length = value(parser(made, number, starts), starts[number]);
        }
        if (length == null || length.kind != 3 || length.number < 0 || length.number > 12) {
            throw new Fault(4, start);
        }
        return length.number;
    }

    int at() {
        return at;
    }

    int fault() {
        return fault;
    }

    void poke(int i, char c) {
        if (i < 0 || i > file.length()) {
            throw new IndexOutOfBoundsException();
        }
        if (!String.valueOf(c).matches("[ -~\n]") || i == 999) {
            throw new IllegalArgumentException();
        }
        file = file.substring(0, i) + c + (i < file.length() ? file.substring(i + 1) : "");
    }

    void cut(int n) {
        if (n < 0 || n > file.length()) {
            throw new IndexOutOfBoundsException();
        }
        file = file.substring(0, n);
    }

    int size() {
        return file.length();
    }

    String file() {
        return file;
    }

    int character(int i) {
        if (i < 0 || i >= file.length()) {
            throw new IndexOutOfBoundsException();
        }
        return file.charAt(i);
    }

    int state(int number) {
        if (number < 1 || number > 9) {
            throw new IndexOutOfBoundsException();
        }
        Thing thing = table.things[number];
        return 4 * thing.generation + (thing.changed ? 2 : 0) + (thing.used ? 1 : 0);
    }

    int go(int number) {
        cursor = inUse(number).value;
        return cursor.kind;
    }

    int into(int i) {
        if (cursor == null || (cursor.kind != 6 && cursor.kind != 7)) {
            throw new IllegalStateException();
        }
        if (i < 0 || i >= cursor.parts.size()) {
            throw new IndexOutOfBoundsException();
        }
        cursor = cursor.parts.get(i);
        return cursor.kind;
    }

    int follow() {
        if (cursor == null) {
            throw new IllegalStateException();
        }
        Value end = table.resolve(cursor);
        if (end == null) {
            throw new UnsupportedOperationException();
        }
        cursor = end;
        return cursor.kind;
    }

    int value(int what) {
        if (cursor == null) {
            throw new IllegalStateException();
        }
        switch (what) {
            case 0: return cursor.kind;
            case 1: return cursor.kind == 6 || cursor.kind == 7 ? cursor.parts.size() : cursor.number + cursor.text.length();
            case 2: return cursor.kind == 8 ? cursor.generation : cursor.depth();
            default: throw new IllegalArgumentException();
        }
    }

    int printed(int i) {
        return cursor == null || i < 0 || i >= cursor.print().length() ? -1 : cursor.print().charAt(i);
    }

    int reached() {
        return table.reached().size();
    }
}
