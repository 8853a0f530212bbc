import java.util.Arrays;
import java.util.NoSuchElementException;

/**
 * Numbered objects in a file of text: values are read and printed, objects live in a table, and the
 * table is saved to and loaded from the file.
 *
 * <p>All rows are made with the object and used again, so that calls make nothing new.
 */
public final class PaperObjects {
    public static final int NULL = 0, TRUE = 1, FALSE = 2, NUMBER = 3, NAME = 4, STRING = 5, ARRAY = 6, DICTIONARY = 7, REFERENCE = 8;
    public static final int NONE = -1;
    public static final int TAIL = 1, TABLE = 2, OBJECT = 3, LENGTH = 4;

    private static final int OBJECTS = 9;
    /** The bits 1 .. 9: sets of objects are kept as bits, one for each number. */
    private static final int ALL_OBJECTS = 0x3FE;
    private static final int LAST_GENERATION = 9;
    private static final int MOST_VALUES = 12;
    private static final int MOST_DEPTH = 5;
    private static final int MOST_DIGITS = 6;
    private static final int MOST_NAME = 6;
    private static final int MOST_STRING = 12;
    private static final int MOST_DRAFT = 100;
    private static final int MOST_FILE = 999;
    private static final int BYTES_OF_LONG = 8;
    /** The characters of a line of a table, and of the line before an object's value. */
    private static final int ENTRY_LENGTH = 8;
    private static final int HEAD_LENGTH = 8;

    private final Text draft = new Text(MOST_DRAFT);
    private final Cursor cursor = new Cursor();
    private final Cursor probe = new Cursor();
    private final Reader reader = new Reader();
    private final Loader loader = new Loader();
    private final Writer writer = new Writer();
    private Text file = new Text(MOST_FILE);
    private Text spareFile = new Text(MOST_FILE);
    private Table table = new Table();
    private Table spareTable = new Table();
    private Tree spareTree = new Tree();
    private int latestPlace = NONE;
    private int latestFault = 0;

    public PaperObjects() {
    }

    public int type(long text) throws IllegalArgumentException {
        int count = countOfBytes(text);
        for (int i = 0; i < count; i++) {
            if (!isCharacter(byteOf(text, i))) {
                throw new IllegalArgumentException();
            }
        }
        if (draft.length + count > MOST_DRAFT) {
            throw new IllegalArgumentException();
        }
        draft.addPacked(text);
        return draft.length;
    }

    public void put(int number) throws IndexOutOfBoundsException, IllegalStateException, IllegalArgumentException {
        Slot slot = table.slot(number);
        if (slot == null) {
            throw new IndexOutOfBoundsException();
        }
        if (!slot.used && slot.generation == LAST_GENERATION) {
            throw new IllegalStateException();
        }
        boolean faultless = reader.readWhole(draft, spareTree);
        draft.clear();
        latestPlace = faultless ? NONE : reader.place;
        if (!faultless) {
            throw new IllegalArgumentException();
        }
        spareTree = slot.exchange(spareTree);
        cursor.clear();
    }

    public void content(int number) throws NoSuchElementException, IllegalStateException, IllegalArgumentException {
        Slot slot = table.slotInUse(number);
        if (slot == null) {
            throw new NoSuchElementException();
        }
        if (!slot.tree.canHaveLength()) {
            throw new IllegalStateException();
        }
        if (draft.length > MOST_STRING || draft.hasNewline()) {
            latestPlace = 0;
            throw new IllegalArgumentException();
        }
        slot.takeContents(draft);
        draft.clear();
        latestPlace = NONE;
        cursor.clear();
    }

    public void free(int number) throws NoSuchElementException {
        Slot slot = table.slotInUse(number);
        if (slot == null) {
            throw new NoSuchElementException();
        }
        slot.release();
        cursor.clear();
    }

    public void root(int number) throws NoSuchElementException {
        Slot slot = table.slotInUse(number);
        if (slot == null) {
            throw new NoSuchElementException();
        }
        table.rootNumber = number;
        table.rootGeneration = slot.generation;
    }

    public int save(boolean anew) throws IllegalStateException, UnsupportedOperationException {
        int tail = file.tailNumber();
        if (table.rootNumber == 0 || (!anew && tail == NONE)) {
            throw new IllegalStateException();
        }
        int listed = anew ? ALL_OBJECTS : table.changedOnes();
        int kept = anew ? table.reachedOnes() : listed & table.usedOnes();
        if (!table.lengthsHold(kept, probe)) {
            throw new IllegalStateException();
        }
        startSpareFile(anew);
        writer.addObjects(spareFile, table, kept);
        writer.addTable(spareFile, table, listed, kept, anew ? NONE : tail);
        if (spareFile.overfull) {
            throw new UnsupportedOperationException();
        }
        if (anew) {
            table.releaseAllBut(kept);
        }
        table.forgetChanges();
        exchangeFiles();
        cursor.clear();
        return file.length;
    }

    public int load() throws IllegalArgumentException {
        boolean faultless = loader.takeTables(file, spareTable);
        if (faultless) {
            loader.takeValues();
            faultless = loader.takeEnds();
        }
        if (!faultless) {
            latestFault = loader.kindOfFault;
            latestPlace = loader.placeOfFault;
            throw new IllegalArgumentException();
        }
        Table former = table;
        table = spareTable;
        spareTable = former;
        latestPlace = NONE;
        cursor.clear();
        return Integer.bitCount(table.usedOnes());
    }

    public int at() {
        return latestPlace;
    }

    public int fault() {
        return latestFault;
    }

    public void poke(int i, char c) throws IndexOutOfBoundsException, IllegalArgumentException {
        if (i < 0 || i > file.length) {
            throw new IndexOutOfBoundsException();
        }
        if (!isCharacter(c) || i >= MOST_FILE) {
            throw new IllegalArgumentException();
        }
        file.set(i, c);
    }

    public void cut(int n) throws IndexOutOfBoundsException {
        if (n < 0 || n > file.length) {
            throw new IndexOutOfBoundsException();
        }
        file.length = n;
    }

    public int size() {
        return file.length;
    }

    public int character(int i) throws IndexOutOfBoundsException {
        if (i < 0 || i >= file.length) {
            throw new IndexOutOfBoundsException();
        }
        return file.code(i);
    }

    public int state(int number) throws IndexOutOfBoundsException {
        Slot slot = table.slot(number);
        if (slot == null) {
            throw new IndexOutOfBoundsException();
        }
        return 4 * slot.generation + (slot.changed ? 2 : 0) + (slot.used ? 1 : 0);
    }

    public int go(int number) throws NoSuchElementException {
        Slot slot = table.slotInUse(number);
        if (slot == null) {
            throw new NoSuchElementException();
        }
        cursor.set(slot.tree, 0);
        return cursor.kind();
    }

    public int into(int i) throws IllegalStateException, IndexOutOfBoundsException {
        Tree tree = cursor.tree;
        if (tree == null || !tree.isNest(cursor.node)) {
            throw new IllegalStateException();
        }
        int part = tree.part(cursor.node, i);
        if (part == NONE) {
            throw new IndexOutOfBoundsException();
        }
        cursor.set(tree, part);
        return cursor.kind();
    }

    public int follow() throws IllegalStateException, UnsupportedOperationException {
        if (cursor.tree == null) {
            throw new IllegalStateException();
        }
        probe.set(cursor.tree, cursor.node);
        if (!table.resolve(probe)) {
            throw new UnsupportedOperationException();
        }
        cursor.set(probe.tree, probe.node);
        return cursor.kind();
    }

    public int value(int what) throws IllegalStateException, IllegalArgumentException {
        Tree tree = cursor.tree;
        if (tree == null) {
            throw new IllegalStateException();
        }
        int node = cursor.node;
        switch (what) {
            case 0:
                return cursor.kind();
            case 1:
                return tree.isNest(node) ? tree.countOfParts(node) : tree.number[node];
            case 2:
                return cursor.kind() == REFERENCE ? tree.generation[node] : tree.depth(node);
            default:
                throw new IllegalArgumentException();
        }
    }

    public int printed(int i) {
        if (cursor.tree == null) {
            return NONE;
        }
        spareFile.clear();
        cursor.tree.print(cursor.node, spareFile);
        return spareFile.code(i);
    }

    public int reached() {
        return Integer.bitCount(table.reachedOnes());
    }

    private void startSpareFile(boolean anew) {
        spareFile.clear();
        if (anew) {
            spareFile.addAll("%PAPER\n");
        } else {
            spareFile.addText(file);
        }
    }

    private void exchangeFiles() {
        Text former = file;
        file = spareFile;
        spareFile = former;
    }

    private static boolean isCharacter(int c) {
        return c == '\n' || (c >= ' ' && c <= '~');
    }

    private static boolean isDigit(int c) {
        return c >= '0' && c <= '9';
    }

    private static boolean isObjectDigit(int c) {
        return c >= '1' && c <= '9';
    }

    private static boolean isNameCode(int c) {
        return (c >= '0' && c <= '9') || (c >= 'a' && c <= 'z') || (c >= 'A' && c <= 'Z');
    }

    private static boolean isWordCode(int c) {
        return c == '-' || (c >= '0' && c <= '9') || (c >= 'a' && c <= 'z') || (c >= 'A' && c <= 'Z');
    }

    private static int byteOf(long packed, int i) {
        return (int) (packed >>> (8 * i)) & 255;
    }

    private static int countOfBytes(long packed) {
        int count = 0;
        while (count < BYTES_OF_LONG && byteOf(packed, count) != 0) {
            count++;
        }
        return count;
    }

    /** A name as one number, so that keys can be compared by ==; packed as type takes its text. */
    private static long packedName(String name) {
        long packed = 0;
        for (int i = 0; i < name.length(); i++) {
            packed |= (long) name.charAt(i) << (8 * i);
        }
        return packed;
    }

    private static boolean contains(int ones, int number) {
        return (ones >> number & 1) == 1;
    }

    /** Characters in a row that is made once; what does not fit is left out and makes it overfull. */
    private static final class Text {
        private final char[] row;
        private int length = 0;
        private boolean overfull = false;

        Text(int most) {
            row = new char[most];
        }

        /** NONE outside of the text, so that readers may look behind its end. */
        int code(int i) {
            return i >= 0 && i < length ? row[i] : NONE;
        }

        void set(int i, char c) {
            if (i == length) {
                add(c);
            } else if (i >= 0 && i < length) {
                row[i] = c;
            }
        }

        void clear() {
            length = 0;
            overfull = false;
        }

        void add(int c) {
            if (length < row.length) {
                row[length] = (char) c;
                length++;
            } else {
                overfull = true;
            }
        }

        void addAll(String letters) {
            for (int i = 0; i < letters.length(); i++) {
                add(letters.charAt(i));
            }
        }

        void addText(Text other) {
            for (int i = 0; i < other.length; i++) {
                add(other.code(i));
            }
        }

        void addPacked(long packed) {
            for (int i = 0; i < BYTES_OF_LONG && byteOf(packed, i) != 0; i++) {
                add(byteOf(packed, i));
            }
        }

        void addNumber(int number) {
            if (number < 0) {
                add('-');
            }
            int rest = Math.abs(number);
            boolean begun = false;
            for (int unit = 100000; unit > 0; unit /= 10) {
                int digit = rest / unit % 10;
                begun = begun || digit > 0 || unit == 1;
                if (begun) {
                    add('0' + digit);
                }
            }
        }

        void addReference(int number, int generation) {
            add('0' + number);
            add(' ');
            add('0' + generation);
            add(' ');
            add('R');
        }

        void addThreeDigits(int number) {
            add('0' + number / 100 % 10);
            add('0' + number / 10 % 10);
            add('0' + number % 10);
        }

        boolean hasNewline() {
            for (int i = 0; i < length; i++) {
                if (code(i) == '\n') {
                    return true;
                }
            }
            return false;
        }

        boolean has(int place, String letters) {
            for (int i = 0; i < letters.length(); i++) {
                if (code(place + i) != letters.charAt(i)) {
                    return false;
                }
            }
            return true;
        }

        int spacesEnd(int begin) {
            int end = begin;
            while (end < length && (code(end) == ' ' || code(end) == '\n')) {
                end++;
            }
            return end;
        }

        int wordEnd(int begin) {
            int end = begin;
            while (end < length && isWordCode(code(end))) {
                end++;
            }
            return end;
        }

        /** The end of the name with its / that stands at a place, NONE if none does. */
        int nameEnd(int place) {
            int end = place + 1;
            while (end < length && isNameCode(code(end))) {
                end++;
            }
            int letters = end - place - 1;
            return code(place) == '/' && letters >= 1 && letters <= MOST_NAME ? end : NONE;
        }

        /** What the digits from begin to end say, NONE if it is not one to six digits that stand there. */
        int digits(int begin, int end) {
            if (end <= begin || end - begin > MOST_DIGITS) {
                return NONE;
            }
            int number = 0;
            for (int i = begin; i < end; i++) {
                if (!isDigit(code(i))) {
                    return NONE;
                }
                number = 10 * number + code(i) - '0';
            }
            return number;
        }

        long packed(int begin, int end) {
            long packed = 0;
            for (int i = begin; i < end; i++) {
                packed |= (long) code(i) << (8 * (i - begin));
            }
            return packed;
        }

        /** The number at the end of a file, NONE if it does not end as a file has to. */
        int tailNumber() {
            int end = length - "\n%%EOF\n".length();
            int begin = end;
            while (end - begin < 3 && isDigit(code(begin - 1))) {
                begin--;
            }
            boolean framed = has(begin - "startxref\n".length(), "startxref\n") && has(end, "\n%%EOF\n");
            return framed ? digits(begin, end) : NONE;
        }
    }

    /**
     * A value and all parts of parts, each one a node behind the array or dictionary that holds it. The
     * levels alone say which: the parts of a node are those behind it that are one level deeper.
     */
    private static final class Tree {
        private int count = 0;
        private final int[] kinds = new int[MOST_VALUES];
        private final int[] levels = new int[MOST_VALUES];
        /** The number of a NUMBER, the object's of a REFERENCE, how many letters a NAME or STRING has. */
        private final int[] number = new int[MOST_VALUES];
        private final int[] generation = new int[MOST_VALUES];
        private final long[] keys = new long[MOST_VALUES];
        private final char[] letters = new char[MOST_VALUES * MOST_STRING];

        void clear() {
            count = 0;
        }

        int kindOf(int node) {
            return node >= 0 && node < count ? kinds[node] : NONE;
        }

        boolean isNest(int node) {
            return kindOf(node) == ARRAY || kindOf(node) == DICTIONARY;
        }

        /** Adds a node as the last one; whoever calls has looked that there is room. */
        int add(int kind, int level, long key) {
            int node = count;
            kinds[node] = kind;
            levels[node] = level;
            number[node] = 0;
            generation[node] = 0;
            keys[node] = key;
            count++;
            return node;
        }

        void addLetter(int node, int c) {
            if (number[node] < MOST_STRING) {
                letters[node * MOST_STRING + number[node]] = (char) c;
                number[node]++;
            }
        }

        int end(int node) {
            int end = node + 1;
            while (end < count && levels[end] > levels[node]) {
                end++;
            }
            return end;
        }

        int countOfParts(int node) {
            int parts = 0;
            int end = end(node);
            for (int i = node + 1; i < end; i++) {
                if (levels[i] == levels[node] + 1) {
                    parts++;
                }
            }
            return parts;
        }

        int part(int node, int index) {
            int before = 0;
            int end = end(node);
            for (int i = node + 1; i < end; i++) {
                if (levels[i] == levels[node] + 1) {
                    if (before == index) {
                        return i;
                    }
                    before++;
                }
            }
            return NONE;
        }

        int partWithKey(int node, long key) {
            int end = end(node);
            for (int i = node + 1; i < end; i++) {
                if (levels[i] == levels[node] + 1 && keys[i] == key) {
                    return i;
                }
            }
            return NONE;
        }

        int depth(int node) {
            int deepest = levels[node];
            int end = end(node);
            for (int i = node; i < end; i++) {
                deepest = Math.max(deepest, levels[i]);
            }
            return deepest - levels[node] + 1;
        }

        int lengthPart() {
            return partWithKey(0, packedName("Length"));
        }

        boolean canHaveLength() {
            return kindOf(0) == DICTIONARY && (count < MOST_VALUES || lengthPart() != NONE);
        }

        void giveLength(int length) {
            int node = lengthPart();
            if (kindOf(node) == REFERENCE) {
                return;
            }
            if (node == NONE) {
                node = add(NUMBER, 1, packedName("Length"));
            }
            removeParts(node);
            kinds[node] = NUMBER;
            number[node] = length;
        }

        private void removeParts(int node) {
            int from = end(node);
            int to = node + 1;
            int moved = count - from;
            System.arraycopy(kinds, from, kinds, to, moved);
            System.arraycopy(levels, from, levels, to, moved);
            System.arraycopy(number, from, number, to, moved);
            System.arraycopy(generation, from, generation, to, moved);
            System.arraycopy(keys, from, keys, to, moved);
            System.arraycopy(letters, from * MOST_STRING, letters, to * MOST_STRING, moved * MOST_STRING);
            count = to + moved;
        }

        void print(int node, Text out) {
            int end = end(node);
            for (int i = node; i < end; i++) {
                if (i > node) {
                    printBefore(i, out);
                }
                printOpening(i, out);
                // An outer node stands before an inner one, so going back closes the inner one first.
                for (int k = i; k >= node; k--) {
                    if (end(k) == i + 1) {
                        printClosing(k, out);
                    }
                }
            }
        }

        private void printBefore(int node, Text out) {
            boolean first = levels[node] > levels[node - 1];
            if (!first) {
                out.add(' ');
            }
            if (keys[node] != 0) {
                out.add('/');
                out.addPacked(keys[node]);
                out.add(' ');
            }
        }

        private void printOpening(int node, Text out) {
            switch (kinds[node]) {
                case NULL:
                    out.addAll("null");
                    break;
                case TRUE:
                    out.addAll("true");
                    break;
                case FALSE:
                    out.addAll("false");
                    break;
                case NUMBER:
                    out.addNumber(number[node]);
                    break;
                case NAME:
                    out.add('/');
                    printLetters(node, out);
                    break;
                case STRING:
                    out.add('(');
                    printLetters(node, out);
                    out.add(')');
                    break;
                case ARRAY:
                    out.add('[');
                    break;
                case DICTIONARY:
                    out.addAll("<<");
                    break;
                default:
                    out.addReference(number[node], generation[node]);
                    break;
            }
        }

        private void printClosing(int node, Text out) {
            if (kinds[node] == ARRAY) {
                out.add(']');
            } else if (kinds[node] == DICTIONARY) {
                out.addAll(">>");
            }
        }

        private void printLetters(int node, Text out) {
            for (int i = 0; i < number[node]; i++) {
                char c = letters[node * MOST_STRING + i];
                if (c == '(' || c == ')' || c == '\\') {
                    out.add('\\');
                }
                out.add(c);
            }
        }
    }

    /** A node of a tree; there is none while the tree is null. */
    private static final class Cursor {
        private Tree tree = null;
        private int node = 0;
        /** The number of the object that was met last when the value here was resolved. */
        private int lastMet = 0;

        void set(Tree newTree, int newNode) {
            tree = newTree;
            node = newNode;
        }

        void clear() {
            tree = null;
        }

        int kind() {
            return tree == null ? NONE : tree.kindOf(node);
        }
    }

    /** One object of the table. */
    private static final class Slot {
        private boolean used = false;
        private boolean changed = false;
        private boolean hasContents = false;
        private int generation = 0;
        private Tree tree = new Tree();
        private final Text contents = new Text(MOST_STRING);

        void reset() {
            used = false;
            changed = false;
            hasContents = false;
            generation = 0;
        }

        /** Takes a tree as the new value and hands back the former one. */
        Tree exchange(Tree newTree) {
            Tree former = tree;
            tree = newTree;
            used = true;
            changed = true;
            hasContents = false;
            return former;
        }

        void takeContents(Text draft) {
            tree.giveLength(draft.length);
            contents.clear();
            contents.addText(draft);
            hasContents = true;
            changed = true;
        }

        int nextGeneration() {
            return Math.min(generation + 1, LAST_GENERATION);
        }

        void release() {
            generation = nextGeneration();
            used = false;
            changed = true;
            hasContents = false;
        }
    }

    /** The objects 1 .. 9 and the root, whose number is 0 while there is none. */
    private static final class Table {
        private final Slot[] slots = new Slot[OBJECTS];
        private final Tree nothing = new Tree();
        private int rootNumber = 0;
        private int rootGeneration = 0;

        Table() {
            for (int i = 0; i < OBJECTS; i++) {
                slots[i] = new Slot();
            }
            nothing.add(NULL, 0, 0);
        }

        Slot slot(int number) {
            return number >= 1 && number <= OBJECTS ? slots[number - 1] : null;
        }

        Slot slotInUse(int number) {
            boolean isInUse = number >= 1 && number <= OBJECTS && slots[number - 1].used;
            return isInUse ? slots[number - 1] : null;
        }

        Slot meant(int number, int generation) {
            Slot slot = slotInUse(number);
            return slot != null && slot.generation == generation ? slot : null;
        }

        void reset() {
            rootNumber = 0;
            rootGeneration = 0;
            for (int i = 0; i < OBJECTS; i++) {
                slots[i].reset();
            }
        }

        int usedOnes() {
            int ones = 0;
            for (int i = 0; i < OBJECTS; i++) {
                ones |= slots[i].used ? 2 << i : 0;
            }
            return ones;
        }

        int changedOnes() {
            int ones = 0;
            for (int i = 0; i < OBJECTS; i++) {
                ones |= slots[i].changed ? 2 << i : 0;
            }
            return ones;
        }

        int reachedOnes() {
            int ones = meant(rootNumber, rootGeneration) == null ? 0 : 1 << rootNumber;
            // A round that finds nothing new is the last that could: nine rounds are enough.
            for (int round = 0; round < OBJECTS; round++) {
                ones |= onesMeantBy(ones);
            }
            return ones;
        }

        private int onesMeantBy(int ones) {
            int found = 0;
            for (int i = 0; i < OBJECTS; i++) {
                if (contains(ones, i + 1)) {
                    found |= onesMeantIn(slots[i].tree);
                }
            }
            return found;
        }

        private int onesMeantIn(Tree tree) {
            int found = 0;
            for (int node = 0; node < tree.count; node++) {
                boolean means = tree.kinds[node] == REFERENCE && meant(tree.number[node], tree.generation[node]) != null;
                found |= means ? 1 << tree.number[node] : 0;
            }
            return found;
        }

        /** Moves the cursor to what its value is when it is resolved; false, and somewhere, for a cycle. */
        boolean resolve(Cursor cursor) {
            int met = 0;
            for (int step = 0; step <= OBJECTS; step++) {
                if (cursor.kind() != REFERENCE) {
                    return true;
                }
                int number = cursor.tree.number[cursor.node];
                Slot slot = meant(number, cursor.tree.generation[cursor.node]);
                if (slot == null) {
                    cursor.set(nothing, 0);
                    return true;
                }
                if (contains(met, number)) {
                    return false;
                }
                met |= 1 << number;
                cursor.lastMet = number;
                cursor.set(slot.tree, 0);
            }
            return false;
        }

        /** What the part Length is when it is resolved, NONE if no number; the probe stays where that ends. */
        int resolvedLength(Tree tree, Cursor probe) {
            int part = tree.lengthPart();
            probe.set(nothing, 0);
            if (part != NONE) {
                probe.set(tree, part);
            }
            boolean isNumber = resolve(probe) && probe.kind() == NUMBER;
            return isNumber ? probe.tree.number[probe.node] : NONE;
        }

        boolean lengthsHold(int ones, Cursor probe) {
            for (int i = 0; i < OBJECTS; i++) {
                Slot slot = slots[i];
                if (contains(ones, i + 1) && slot.hasContents && resolvedLength(slot.tree, probe) != slot.contents.length) {
                    return false;
                }
            }
            return true;
        }

        void releaseAllBut(int kept) {
            for (int i = 0; i < OBJECTS; i++) {
                if (slots[i].used && !contains(kept, i + 1)) {
                    slots[i].release();
                }
            }
        }

        void forgetChanges() {
            for (int i = 0; i < OBJECTS; i++) {
                slots[i].changed = false;
            }
        }
    }

    /** Reads a value, token by token. */
    private static final class Reader {
        private Text text = null;
        private Tree tree = null;
        /** The nodes of the arrays and dictionaries that are begun and not ended. */
        private final int[] open = new int[MOST_DEPTH];
        private int depth = 0;
        /** The key that waits for its value, 0 if none does. */
        private long key = 0;
        /** Behind the last token that was taken; if there is a fault, that is here. */
        private int place = 0;

        boolean readWhole(Text from, Tree into) {
            if (!read(from, 0, into)) {
                return false;
            }
            place = from.spacesEnd(place);
            return place >= from.length;
        }

        boolean read(Text from, int begin, Tree into) {
            text = from;
            tree = into;
            tree.clear();
            depth = 0;
            key = 0;
            place = begin;
            // Each step takes a token of at least one character, or is the last.
            for (int step = 0; step <= from.length; step++) {
                place = from.spacesEnd(place);
                if (!takeClosing() && !(wantsKey() ? takeKey() : takeValue())) {
                    return false;
                }
                if (depth == 0) {
                    return true;
                }
            }
            return false;
        }

        private boolean takeClosing() {
            if (depth == 0 || key != 0) {
                return false;
            }
            boolean isArray = tree.kindOf(open[depth - 1]) == ARRAY;
            if (!text.has(place, isArray ? "]" : ">>")) {
                return false;
            }
            place += isArray ? 1 : 2;
            depth--;
            return true;
        }

        private boolean wantsKey() {
            return depth > 0 && key == 0 && tree.kindOf(open[depth - 1]) == DICTIONARY;
        }

        private boolean takeKey() {
            int end = text.nameEnd(place);
            if (end == NONE) {
                return false;
            }
            long name = text.packed(place + 1, end);
            if (tree.partWithKey(open[depth - 1], name) != NONE) {
                return false;
            }
            key = name;
            place = end;
            return true;
        }

        private boolean takeValue() {
            if (depth >= MOST_DEPTH || tree.count >= MOST_VALUES) {
                return false;
            }
            switch (text.code(place)) {
                case '[':
                    return takeOpening(ARRAY, place + 1);
                case '<':
                    return text.code(place + 1) == '<' && takeOpening(DICTIONARY, place + 2);
                case '/':
                    return takeName();
                case '(':
                    return takeString();
                default:
                    return takeReference() || takeNumber() || takeConstant("null", NULL)
                        || takeConstant("true", TRUE) || takeConstant("false", FALSE);
            }
        }

        private int addNode(int kind, int end) {
            int node = tree.add(kind, depth, key);
            key = 0;
            place = end;
            return node;
        }

        private boolean takeOpening(int kind, int end) {
            open[depth] = addNode(kind, end);
            depth++;
            return true;
        }

        private boolean takeName() {
            int end = text.nameEnd(place);
            if (end == NONE) {
                return false;
            }
            int begin = place + 1;
            int node = addNode(NAME, end);
            for (int i = begin; i < end; i++) {
                tree.addLetter(node, text.code(i));
            }
            return true;
        }

        private boolean takeString() {
            int node = tree.add(STRING, depth, key);
            for (int i = place + 1; i < text.length; i++) {
                int c = text.code(i);
                if (c == ')') {
                    key = 0;
                    place = i + 1;
                    return true;
                }
                if (c == '\\') {
                    i++;
                    c = text.code(i);
                    if (c != '(' && c != ')' && c != '\\') {
                        return false;
                    }
                }
                if (c == '\n' || tree.number[node] == MOST_STRING) {
                    return false;
                }
                tree.addLetter(node, c);
            }
            return false;
        }

        private boolean takeReference() {
            int second = text.spacesEnd(place + 1);
            int third = text.spacesEnd(second + 1);
            boolean stands = isDigitWord(place) && text.code(place) != '0' && isDigitWord(second)
                && text.code(third) == 'R' && !isWordCode(text.code(third + 1));
            if (!stands) {
                return false;
            }
            int number = text.code(place) - '0';
            int node = addNode(REFERENCE, third + 1);
            tree.number[node] = number;
            tree.generation[node] = text.code(second) - '0';
            return true;
        }

        private boolean isDigitWord(int begin) {
            return isDigit(text.code(begin)) && !isWordCode(text.code(begin + 1));
        }

        private boolean takeNumber() {
            int end = text.wordEnd(place);
            boolean isNegative = text.code(place) == '-';
            int digits = text.digits(isNegative ? place + 1 : place, end);
            if (digits == NONE) {
                return false;
            }
            int node = addNode(NUMBER, end);
            tree.number[node] = isNegative ? -digits : digits;
            return true;
        }

        private boolean takeConstant(String word, int kind) {
            int end = place + word.length();
            if (!text.has(place, word) || isWordCode(text.code(end))) {
                return false;
            }
            addNode(kind, end);
            return true;
        }
    }

    /** Writes the texts of objects and tables behind a file. */
    private static final class Writer {
        private final int[] places = new int[OBJECTS + 1];

        void addObjects(Text out, Table table, int kept) {
            for (int number = 1; number <= OBJECTS; number++) {
                Slot slot = table.slotInUse(number);
                if (slot != null && contains(kept, number)) {
                    places[number] = out.length;
                    addObject(out, number, slot);
                }
            }
        }

        private void addObject(Text out, int number, Slot slot) {
            out.addNumber(number);
            out.add(' ');
            out.addNumber(slot.generation);
            out.addAll(" obj\n");
            slot.tree.print(0, out);
            out.add('\n');
            if (slot.hasContents) {
                out.addAll("stream\n");
                out.addText(slot.contents);
                out.addAll("\nendstream\n");
            }
            out.addAll("endobj\n");
        }

        /** The table's text for the listed numbers, where only the kept ones are in use; prev may be NONE. */
        void addTable(Text out, Table table, int listed, int kept, int prev) {
            int place = out.length;
            out.addAll("xref\n");
            for (int number = 1; number <= OBJECTS; number++) {
                if (contains(listed, number)) {
                    if (!contains(listed, number - 1)) {
                        addRunHead(out, listed, number);
                    }
                    addEntry(out, table, number, contains(kept, number));
                }
            }
            addTrailer(out, table, prev);
            out.addAll("startxref\n");
            out.addNumber(place);
            out.addAll("\n%%EOF\n");
        }

        private void addRunHead(Text out, int listed, int first) {
            int behind = first;
            while (behind <= OBJECTS && contains(listed, behind)) {
                behind++;
            }
            out.addNumber(first);
            out.add(' ');
            out.addNumber(behind - first);
            out.add('\n');
        }

        private void addEntry(Text out, Table table, int number, boolean isKept) {
            Slot slot = table.slot(number);
            if (slot == null) {
                return;
            }
            // An object in use that is not kept becomes free when the save is done.
            int generation = slot.used && !isKept ? slot.nextGeneration() : slot.generation;
            out.addThreeDigits(isKept ? places[number] : 0);
            out.add(' ');
            out.addNumber(generation);
            out.addAll(isKept ? " n\n" : " f\n");
        }

        private void addTrailer(Text out, Table table, int prev) {
            out.addAll("trailer\n<</Root ");
            out.addReference(table.rootNumber, table.rootGeneration);
            if (prev != NONE) {
                out.addAll(" /Prev ");
                out.addNumber(prev);
            }
            out.addAll(">>\n");
        }
    }

    /** Loads a file into a table that nobody uses yet; of a file with a fault it keeps the first one. */
    private static final class Loader {
        private final Reader reader = new Reader();
        private final Cursor probe = new Cursor();
        private final Tree trailer = new Tree();
        /** The place of each object's text, and behind its value. */
        private final int[] places = new int[OBJECTS + 1];
        private final int[] valueEnds = new int[OBJECTS + 1];
        /** A bit for each place of the file: whether a table was met there. */
        private final long[] seen = new long[MOST_FILE / 64 + 1];
        private Text file = null;
        private Table table = null;
        private int entered = 0;
        private int kindOfFault = 0;
        private int placeOfFault = 0;

        private boolean refuse(int kind, int place) {
            kindOfFault = kind;
            placeOfFault = place;
            return false;
        }

        boolean takeTables(Text from, Table into) {
            file = from;
            table = into;
            table.reset();
            entered = 0;
            Arrays.fill(seen, 0L);
            int place = file.tailNumber();
            if (place == NONE) {
                return refuse(TAIL, 0);
            }
            // No place comes twice, so there are no more tables than places.
            for (int i = 0; i < MOST_FILE; i++) {
                int trailerPlace = isNewPlace(place) ? takeEntries(place) : NONE;
                if (trailerPlace == NONE || !reader.read(file, trailerPlace, trailer) || !isTrailer()) {
                    return refuse(TABLE, place);
                }
                if (i == 0) {
                    takeRoot();
                }
                int prev = trailer.partWithKey(0, packedName("Prev"));
                if (prev == NONE) {
                    return true;
                }
                place = trailer.number[prev];
            }
            return refuse(TABLE, place);
        }

        private boolean isNewPlace(int place) {
            if (place < 0 || place >= file.length) {
                return false;
            }
            boolean isNew = (seen[place / 64] >> (place % 64) & 1) == 0;
            seen[place / 64] |= 1L << (place % 64);
            return isNew;
        }

        /** Takes all runs of a table and answers the place of its dictionary, NONE if they are not as they have to be. */
        private int takeEntries(int begin) {
            if (!file.has(begin, "xref\n")) {
                return NONE;
            }
            int place = begin + "xref\n".length();
            // A run has more than one character, so this bound is above all that fit.
            for (int run = 0; run < MOST_FILE && isObjectDigit(file.code(place)); run++) {
                place = takeRun(place);
            }
            return file.has(place, "trailer\n") ? place + "trailer\n".length() : NONE;
        }

        private boolean isTrailer() {
            int root = trailer.partWithKey(0, packedName("Root"));
            int prev = trailer.partWithKey(0, packedName("Prev"));
            return trailer.kindOf(0) == DICTIONARY
                && trailer.kindOf(root) == REFERENCE
                && (prev == NONE || trailer.kindOf(prev) == NUMBER);
        }

        private void takeRoot() {
            int root = trailer.partWithKey(0, packedName("Root"));
            if (root != NONE) {
                table.rootNumber = trailer.number[root];
                table.rootGeneration = trailer.generation[root];
            }
        }

        /** Takes the entries of a run and answers the place behind it, NONE (where nothing stands) if it is none. */
        private int takeRun(int begin) {
            int first = file.code(begin) - '0';
            int count = file.code(begin + 2) - '0';
            boolean isHead = file.code(begin + 1) == ' ' && isObjectDigit(file.code(begin + 2)) && file.code(begin + 3) == '\n';
            if (!isHead || first + count - 1 > OBJECTS) {
                return NONE;
            }
            int place = begin + 4;
            for (int number = first; number < first + count; number++) {
                if (!isEntry(place)) {
                    return NONE;
                }
                enter(number, place);
                place += ENTRY_LENGTH;
            }
            return place;
        }

        private boolean isEntry(int place) {
            return file.digits(place, place + 3) != NONE
                && file.code(place + 3) == ' '
                && isDigit(file.code(place + 4))
                && (file.has(place + 5, " n\n") || file.has(place + 5, " f\n"));
        }

        private void enter(int number, int place) {
            Slot slot = table.slot(number);
            if (slot == null || contains(entered, number)) {
                return;
            }
            entered |= 1 << number;
            places[number] = file.digits(place, place + 3);
            slot.generation = file.code(place + 4) - '0';
            slot.used = file.code(place + 6) == 'n';
        }

        /** Takes the values of all objects before their ends, since a Length may be that of an object behind. */
        void takeValues() {
            for (int number = 1; number <= OBJECTS; number++) {
                Slot slot = table.slotInUse(number);
                if (slot != null) {
                    // A tree without nodes says that the text is not as it has to be up to the value.
                    if (!standsHead(number, slot) || !reader.read(file, places[number] + HEAD_LENGTH, slot.tree)) {
                        slot.tree.clear();
                    }
                    valueEnds[number] = reader.place;
                }
            }
        }

        boolean takeEnds() {
            for (int number = 1; number <= OBJECTS; number++) {
                Slot slot = table.slotInUse(number);
                if (slot != null && !takeEnd(number, slot)) {
                    return false;
                }
            }
            return true;
        }

        private boolean standsHead(int number, Slot slot) {
            int place = places[number];
            return file.code(place) == '0' + number
                && file.code(place + 1) == ' '
                && file.code(place + 2) == '0' + slot.generation
                && file.has(place + 3, " obj\n");
        }

        private boolean takeEnd(int number, Slot slot) {
            int place = places[number];
            int end = valueEnds[number];
            if (slot.tree.count == 0) {
                return refuse(OBJECT, place);
            }
            if (file.has(end, "\nendobj\n")) {
                return true;
            }
            if (!file.has(end, "\nstream\n") || slot.tree.kindOf(0) != DICTIONARY) {
                return refuse(OBJECT, place);
            }
            int length = table.resolvedLength(slot.tree, probe);
            if (probe.kind() == NONE) {
                return refuse(OBJECT, places[probe.lastMet]);
            }
            if (length < 0 || length > MOST_STRING) {
                return refuse(LENGTH, place);
            }
            return takeStream(slot, end + "\nstream\n".length(), length) || refuse(OBJECT, place);
        }

        private boolean takeStream(Slot slot, int begin, int length) {
            slot.contents.clear();
            for (int i = 0; i < length; i++) {
                int c = file.code(begin + i);
                if (c == NONE || c == '\n') {
                    return false;
                }
                slot.contents.add(c);
            }
            slot.hasContents = true;
            return file.has(begin + length, "\nendstream\nendobj\n");
        }
    }
}
