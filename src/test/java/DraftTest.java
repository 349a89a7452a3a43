/** Promises 1 to 7: a new object's draft, type, put, drop, clear, length and at. */
final class DraftTest {
    private static final String FORTY = "0123456789012345678901234567890123456789";
    private static final Check check = new Check();

    public static void main(String[] args) {
        aNewDraftIsEmpty();
        typeTakesCharactersAlone();
        typeStopsAtForty();
        putAppendsToALine();
        putRefuses();
        dropTakesLinesOut();
        dropRefuses();
        clearMakesEmpty();
        atHasEdges();
        theDraftWorksWhileDown();
        check.end();
    }

    private static void aNewDraftIsEmpty() {
        SharedPages x = new SharedPages(3);
        check.equal("new length", x.length(), 0);
        check.equal("new at(0)", x.at(0), -1);
        check.equal("one empty line", x.put(0, 'a'), true);
    }

    private static void typeTakesCharactersAlone() {
        for (int code = 0; code < 300; code++) {
            boolean due = code == 10 || code >= 32 && code <= 126;
            SharedPages x = new SharedPages(3);
            check.equal("type(" + code + ")", x.type((char) code), due);
            check.equal("length after type(" + code + ")", x.length(), due ? 1 : 0);
            check.equal("at(0) after type(" + code + ")", x.at(0), due ? code : -1);
        }
        check.equal("type(65535)", new SharedPages(3).type('\uffff'), false);
        SharedPages x = new SharedPages(3);
        Desk.write(x, "ab\nc");
        check.equal("typed in order", Desk.draft(x), "ab\nc");
    }

    private static void typeStopsAtForty() {
        SharedPages x = new SharedPages(3);
        Desk.write(x, FORTY);
        check.equal("forty", x.length(), 40);
        check.equal("the 41st", x.type('x'), false);
        check.equal("the 41st, a line end", x.type('\n'), false);
        check.equal("still forty", Desk.draft(x), FORTY);
        Desk.write(x, "\n".repeat(40));
        check.equal("forty line ends", x.length(), 40);
        check.equal("their last line", x.drop(40), true);
        check.equal("no line behind", x.drop(40), false);
    }

    private static void putAppendsToALine() {
        SharedPages x = new SharedPages(3);
        Desk.write(x, "a\n\nb");
        check.equal("put at the first", x.put(0, '1'), true);
        check.equal("put at the empty one", x.put(1, ' '), true);
        check.equal("put at the last", x.put(2, '~'), true);
        check.equal("put", Desk.draft(x), "a1\n \nb~");
        x.type('\n');
        check.equal("put behind the last line end", x.put(3, 'z'), true);
        check.equal("put behind", Desk.draft(x), "a1\n \nb~\nz");
        x.type('y');
        check.equal("typed behind what was put", Desk.draft(x), "a1\n \nb~\nzy");
    }

    private static void putRefuses() {
        SharedPages x = new SharedPages(3);
        Desk.write(x, "a\nb");
        check.equal("put(-1)", x.put(-1, 'x'), false);
        check.equal("put(2)", x.put(2, 'x'), false);
        check.equal("put(least)", x.put(Integer.MIN_VALUE, 'x'), false);
        check.equal("put(greatest)", x.put(Integer.MAX_VALUE, 'x'), false);
        check.equal("put a line end", x.put(0, '\n'), false);
        check.equal("put 31", x.put(0, (char) 31), false);
        check.equal("put 127", x.put(0, (char) 127), false);
        check.equal("refused puts change nothing", Desk.draft(x), "a\nb");
        Desk.write(x, FORTY);
        check.equal("put at forty", x.put(0, 'x'), false);
        check.equal("forty stay", Desk.draft(x), FORTY);
        x.drop(0);
        Desk.write(x, FORTY.substring(1));
        check.equal("put at 39", x.put(0, 'x'), true);
    }

    private static void dropTakesLinesOut() {
        dropped("a\nb\nc", 0, "b\nc");
        dropped("a\nb\nc", 1, "a\nc");
        dropped("a\nb\nc", 2, "a\nb");
        dropped("abc", 0, "");
        dropped("", 0, "");
        dropped("\n", 0, "");
        dropped("\n", 1, "");
        dropped("a\n", 1, "a");
        dropped("a\n", 0, "");
        dropped("\na", 0, "a");
        dropped("\na", 1, "");
        dropped("ab\n\n\ncd", 2, "ab\n\ncd");
        dropped("ab\n\n\ncd", 3, "ab\n\n");
        SharedPages x = new SharedPages(3);
        Desk.write(x, "ab\ncd\nef");
        x.drop(1);
        x.put(0, '!');
        x.drop(1);
        check.equal("lines are counted anew", Desk.draft(x), "ab!");
    }

    private static void dropped(String text, int line, String due) {
        SharedPages x = new SharedPages(3);
        Desk.write(x, text);
        check.equal("drop(" + line + ")", x.drop(line), true);
        check.equal("draft after drop(" + line + ")", Desk.draft(x), due);
    }

    private static void dropRefuses() {
        SharedPages x = new SharedPages(3);
        Desk.write(x, "a\nb");
        check.equal("drop(-1)", x.drop(-1), false);
        check.equal("drop(2)", x.drop(2), false);
        check.equal("drop(greatest)", x.drop(Integer.MAX_VALUE), false);
        check.equal("drop(least)", x.drop(Integer.MIN_VALUE), false);
        check.equal("refused drops change nothing", Desk.draft(x), "a\nb");
    }

    private static void clearMakesEmpty() {
        SharedPages x = new SharedPages(3);
        Desk.write(x, "a\nb");
        x.clear();
        check.equal("cleared", x.length(), 0);
        check.equal("cleared at(0)", x.at(0), -1);
        check.equal("one line is left", x.put(1, 'x'), false);
        x.clear();
        check.equal("cleared twice", x.length(), 0);
    }

    private static void atHasEdges() {
        SharedPages x = new SharedPages(3);
        Desk.write(x, "a\n~");
        check.equal("at(0)", x.at(0), 'a');
        check.equal("at(1)", x.at(1), 10);
        check.equal("at(2)", x.at(2), '~');
        check.equal("at(3)", x.at(3), -1);
        check.equal("at(-1)", x.at(-1), -1);
        check.equal("at(greatest)", x.at(Integer.MAX_VALUE), -1);
        check.equal("at(least)", x.at(Integer.MIN_VALUE), -1);
        x.drop(1);
        check.equal("at(1) of what was dropped", x.at(1), -1);
    }

    private static void theDraftWorksWhileDown() {
        SharedPages x = new SharedPages(3);
        x.cut(0);
        x.save(Desk.A, 0);
        check.equal("down", x.latest(Desk.A), -1);
        check.equal("type while down", x.type('a') && x.type('\n'), true);
        check.equal("put while down", x.put(1, 'b'), true);
        check.equal("draft while down", Desk.draft(x), "a\nb");
        check.equal("drop while down", x.drop(0), true);
        x.clear();
        check.equal("clear while down", x.length(), 0);
    }
}
