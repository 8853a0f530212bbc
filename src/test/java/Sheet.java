/** A file in the making, which knows where its objects are. */
final class Sheet {
    private final StringBuilder text = new StringBuilder("%");
    private final int[] places = new int[10];
    private final StringBuilder entries = new StringBuilder();

    Sheet object(int number, String rest) {
        return object(number, 0, rest);
    }

    Sheet object(int number, int generation, String rest) {
        places[number] = text.length();
        text.append(number).append(' ').append(generation).append(" obj\n").append(rest);
        entries.append(number).append(" 1\n").append(String.format("%03d %d n\n", places[number], generation));
        return this;
    }

    Sheet entry(String more) {
        entries.append(more);
        return this;
    }

    int place(int number) {
        return places[number];
    }

    String end() {
        int table = text.length();
        return text + "xref\n" + entries + "trailer\n<</Root 1 0 R>>\nstartxref\n" + table + "\n%%EOF\n";
    }
}
