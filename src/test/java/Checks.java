/** What several tests ask: how a text is read, and how a file is loaded. */
abstract class Checks {
    protected static final int TAIL = PaperObjects.TAIL;
    protected static final int TABLE = PaperObjects.TABLE;
    protected static final int OBJECT = PaperObjects.OBJECT;
    protected static final int LENGTH = PaperObjects.LENGTH;

    protected static Paper loads(String file, String answer) {
        Paper x = new Paper();
        x.writeFile(file);
        Paper.due("load of\n" + file, x.loaded(), answer);
        return x;
    }

    protected static void faultIn(String file, int fault, int place) {
        Paper x = loads(file, fault + " at " + place);
        Paper.due("states", x.states(), "0 0 0 0 0 0 0 0 0");
        Paper.due("no root", x.save(true), Paper.STATE);
    }

    protected static void reads(String text, String printed) {
        Paper x = new Paper();
        Paper.due("put " + text, x.put(1, text), Paper.OK);
        Paper.due("at behind " + text, x.at(), -1);
        Paper.due("printed " + text, x.printedOf(1), printed);
    }

    protected static void faultAt(String text, int place) {
        Paper x = new Paper();
        Paper.due("put " + text, x.put(1, text), Paper.ARGUMENT);
        Paper.due("at behind " + text, x.at(), place);
        Paper.due("state behind " + text, x.state(1), 0);
        Paper.due("draft behind " + text, x.ask(p -> p.type(0)), 0);
    }
}
