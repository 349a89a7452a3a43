/** Promises 1 to 7 and the terms text, character and line: the draft, and where it ends. */
final class DraftTest {
    private static final String FORTY = Scenes.FORTY;
    private static final int[] NO_LINES = {-1, -2, -41, 41, 42, 256, 65536, Integer.MIN_VALUE, Integer.MAX_VALUE};
    private static final Check check = new Check();

    public static void main(String[] args) {
        aNewDraftIsEmpty();
        typeAppends();
        typeTakesCharactersAlone();
        typeStopsAtForty();
        linesAreNumberedFromNought();
        theEmptyTextHasOneLine();
        fortyLineEndsHaveFortyOneLines();
        putAppendsToALine();
        putNeedsALine();
        putTakesNoLineEnd();
        putTakesPrintedCharactersAlone();
        putStopsAtForty();
        dropTakesLinesOut();
        dropOfTheLastLine();
        dropOfTheOnlyLine();
        dropNeedsALine();
        clearMakesEmpty();
        lengthCounts();
        atHasEnds();
        check.end();
    }

    private static SharedPages with(String text) {
        SharedPages x = new SharedPages(3);
        Desk.write(x, text);
        return x;
    }

    private static boolean isPrinted(int code) {
        return code >= 32 && code <= 126;
    }

    private static void aNewDraftIsEmpty() {
        check.about("1 a new object: an empty draft");
        SharedPages x = new SharedPages(3);
        check.equal("length", x.length(), 0);
        check.equal("at(0)", x.at(0), -1);
        check.equal("a second line", x.put(1, 'a'), false);
        check.equal("saved as it is", x.save(Desk.A, 0), 1);
        check.equal("size of what was saved", x.size(Desk.A, 1), 0);
    }

    private static void typeAppends() {
        check.about("2 type: Appends a character to the draft: true");
        SharedPages x = new SharedPages(3);
        check.equal("type", x.type('b') && x.type('a') && x.type('\n') && x.type('c'), true);
        check.equal("draft", Desk.draft(x), "ba\nc");
    }

    private static void typeTakesCharactersAlone() {
        check.about("2 type: false (refused) if it is none; terms: codes 32 .. 126, and 10");
        SharedPages x = new SharedPages(3);
        for (int code = 0; code < 65536; code++) {
            if (code % 100 == 0) {
                x = new SharedPages(3);
            }
            boolean due = code == 10 || isPrinted(code);
            check.equal("type(" + code + ")", x.type((char) code), due);
            check.equal("length after type(" + code + ")", x.length(), due ? 1 : 0);
            check.equal("at(0) after type(" + code + ")", x.at(0), due ? code : -1);
            x.clear();
        }
    }

    private static void typeStopsAtForty() {
        check.about("2 type: false (refused) if forty are there");
        SharedPages x = with(FORTY.substring(1));
        check.equal("the fortieth", x.type('!'), true);
        check.equal("the 41st", x.type('x'), false);
        check.equal("the 41st, a line end", x.type('\n'), false);
        check.equal("the forty", Desk.draft(x), FORTY.substring(1) + "!");
        x.drop(0);
        check.equal("room again", x.type('x'), true);
        SharedPages y = with("\n".repeat(39));
        check.equal("the fortieth, a line end", y.type('\n'), true);
        check.equal("the 41st line end", y.type('\n'), false);
        check.equal("forty line ends", y.length(), 40);
    }

    private static void linesAreNumberedFromNought() {
        check.about("Terms: LINES are numbered from 0: one more than there are line ends");
        lineCount("a", 1);
        lineCount("\n", 2);
        lineCount("a\n", 2);
        lineCount("\na", 2);
        lineCount("a\nb\nc", 3);
        lineCount("\n\n\n", 4);
        lineCount(FORTY, 1);
        lineCount(FORTY.substring(1) + "\n", 2);
    }

    private static void theEmptyTextHasOneLine() {
        check.about("Terms: the empty text has one empty line");
        lineCount("", 1);
        SharedPages x = new SharedPages(3);
        check.equal("put at it", x.put(0, 'a'), true);
        check.equal("draft", Desk.draft(x), "a");
    }

    private static void fortyLineEndsHaveFortyOneLines() {
        check.about("Terms: one more than there are line ends, of forty line ends");
        lineCount("\n".repeat(40), 41);
        SharedPages x = with("\n".repeat(39));
        check.equal("put at the fortieth line", x.put(39, 'a'), true);
        check.equal("draft", Desk.draft(x), "\n".repeat(39) + "a");
        SharedPages y = with("\n".repeat(40));
        check.equal("the 41st line taken out", y.drop(40), true);
        check.equal("there is no 41st then", y.drop(40), false);
        check.equal("put at the fortieth line then", y.put(39, 'b'), true);
    }

    /** A line can be taken out just if it is there. */
    private static void lineCount(String text, int due) {
        check.equal("the last line of \"" + text + "\"", with(text).drop(due - 1), true);
        check.equal("the line behind the last of \"" + text + "\"", with(text).drop(due), false);
    }

    private static void putAppendsToALine() {
        check.about("3 put: Appends a character that is no line end to a line of the draft: true");
        SharedPages x = with("a\n\nb");
        check.equal("put at the first", x.put(0, '1'), true);
        check.equal("put at the empty one", x.put(1, ' '), true);
        check.equal("put at the last", x.put(2, '~'), true);
        check.equal("put", Desk.draft(x), "a1\n \nb~");
        x.type('\n');
        check.equal("put behind the last line end", x.put(3, 'z'), true);
        x.type('y');
        check.equal("typed behind what was put", Desk.draft(x), "a1\n \nb~\nzy");
    }

    private static void putNeedsALine() {
        check.about("3 put: false (refused) if there is no such line");
        for (int line : NO_LINES) {
            check.equal("put(" + line + ")", with("a\nb").put(line, 'x'), false);
        }
        check.equal("put(2) of two lines", with("a\nb").put(2, 'x'), false);
        check.equal("put(1) of two lines", with("a\nb").put(1, 'x'), true);
        check.equal("put(1) of one line", with("a").put(1, 'x'), false);
        check.equal("put(1) of none", with("").put(1, 'x'), false);
    }

    private static void putTakesNoLineEnd() {
        check.about("3 put: a character that is no line end");
        SharedPages x = with("a\nb");
        check.equal("put of a line end", x.put(0, '\n'), false);
        check.equal("put of a line end at the last line", x.put(1, '\n'), false);
        check.equal("draft", Desk.draft(x), "a\nb");
    }

    private static void putTakesPrintedCharactersAlone() {
        check.about("3 put: false (refused) if the character is none of 32 .. 126");
        SharedPages x = new SharedPages(3);
        for (int code = 0; code < 65536; code++) {
            if (code % 100 == 0) {
                x = new SharedPages(3);
            }
            check.equal("put of " + code, x.put(0, (char) code), isPrinted(code));
            check.equal("length after put of " + code, x.length(), isPrinted(code) ? 1 : 0);
            check.equal("at(0) after put of " + code, x.at(0), isPrinted(code) ? code : -1);
            x.clear();
        }
    }

    private static void putStopsAtForty() {
        check.about("3 put: false (refused) if forty are there");
        String thirtyNine = "012345678\n012345678\n0123456789012345678";
        for (int line = 0; line < 3; line++) {
            SharedPages x = with(thirtyNine);
            check.equal("the fortieth at line " + line, x.put(line, '!'), true);
            check.equal("forty", x.length(), 40);
            String forty = Desk.draft(x);
            for (int other = 0; other < 3; other++) {
                check.equal("the 41st at line " + other, x.put(other, '!'), false);
            }
            check.equal("draft", Desk.draft(x), forty);
        }
        check.equal("put at line 40 of forty line ends", with("\n".repeat(40)).put(40, 'x'), false);
    }

    private static void dropTakesLinesOut() {
        check.about("4 drop: Takes a line of the draft out, with the line end behind it");
        dropped("a\nb\nc", 0, "b\nc");
        dropped("a\nb\nc", 1, "a\nc");
        dropped("\n", 0, "");
        dropped("a\n", 0, "");
        dropped("\na", 0, "a");
        dropped("ab\n\n\ncd", 1, "ab\n\ncd");
        dropped("ab\n\n\ncd", 2, "ab\n\ncd");
        dropped("\n".repeat(40), 0, "\n".repeat(39));
        dropped("\n".repeat(40), 39, "\n".repeat(39));
        SharedPages x = with("ab\ncd\nef");
        x.drop(1);
        x.put(0, '!');
        x.drop(1);
        check.equal("lines are numbered anew", Desk.draft(x), "ab!");
    }

    private static void dropOfTheLastLine() {
        check.about("4 drop: if it is the last one and not the only one, with the line end before it");
        dropped("a\nb\nc", 2, "a\nb");
        dropped("\n", 1, "");
        dropped("a\n", 1, "a");
        dropped("\na", 1, "");
        dropped("ab\n\n\ncd", 3, "ab\n\n");
        dropped("\n".repeat(40), 40, "\n".repeat(39));
        dropped("0123456789\n0123456789\n012345678901234567", 2, "0123456789\n0123456789");
    }

    private static void dropOfTheOnlyLine() {
        check.about("4 drop: of the only line, which has no line end");
        dropped("abc", 0, "");
        dropped("", 0, "");
        dropped(FORTY, 0, "");
        SharedPages x = with("abc");
        x.drop(0);
        check.equal("its empty line stays", x.drop(0), true);
        check.equal("and can be put to", x.put(0, 'x'), true);
    }

    private static void dropped(String text, int line, String due) {
        SharedPages x = with(text);
        check.equal("drop(" + line + ")", x.drop(line), true);
        check.equal("\"" + text + "\" after drop(" + line + ")", Desk.draft(x), due);
    }

    private static void dropNeedsALine() {
        check.about("4 drop: true; false (refused) if there is no such line");
        for (int line : NO_LINES) {
            check.equal("drop(" + line + ")", with("a\nb").drop(line), false);
        }
        check.equal("drop(2) of two lines", with("a\nb").drop(2), false);
        check.equal("drop(1) of one line", with("a").drop(1), false);
        check.equal("drop(1) of none", with("").drop(1), false);
    }

    private static void clearMakesEmpty() {
        check.about("5 clear: Makes the draft empty");
        for (String text : new String[] {"", "a\nb", "\n".repeat(40), FORTY}) {
            SharedPages x = with(text);
            x.clear();
            check.equal("length", x.length(), 0);
            check.equal("at(0)", x.at(0), -1);
            check.equal("a second line", x.put(1, 'x'), false);
            for (int k = 0; k < 40; k++) {
                check.equal("room for forty", x.type('x'), true);
            }
            check.equal("no room for one more", x.type('x'), false);
        }
    }

    private static void lengthCounts() {
        check.about("6 length: The number of characters of the draft");
        SharedPages x = new SharedPages(3);
        for (int count = 0; count < 45; count++) {
            check.equal("length", x.length(), Math.min(count, 40));
            x.type(count % 3 == 0 ? '\n' : 'a');
        }
        x.drop(0);
        check.equal("length after drop", x.length(), 39);
        x.put(0, 'a');
        check.equal("length after put", x.length(), 40);
    }

    private static void atHasEnds() {
        check.about("7 at: Character k of the draft (from 0); -1 if there is none");
        for (String text : new String[] {"", "a", "a\n~", FORTY}) {
            SharedPages x = with(text);
            for (int k = -50; k <= 90; k++) {
                check.equal("at(" + k + ") of " + text, x.at(k), k >= 0 && k < text.length() ? text.charAt(k) : -1);
            }
            for (int k : new int[] {256, 65536, Integer.MIN_VALUE, Integer.MAX_VALUE}) {
                check.equal("at(" + k + ")", x.at(k), -1);
            }
        }
        SharedPages x = with("abc\nd");
        x.drop(0);
        check.equal("at(0) after a drop", x.at(0), 'd');
        check.equal("at(1) of what was dropped", x.at(1), -1);
    }
}
