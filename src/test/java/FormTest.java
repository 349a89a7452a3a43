/** Promises 1, 11 and 14 with the terms common lines, hunks, forms, size and steps. */
final class FormTest {
    private static final Check check = new Check();

    public static void main(String[] args) {
        everyIsKeptInBounds();
        theFirstIsASnapshot();
        everyKthIsASnapshot();
        pagesAreCountedApart();
        oneGoneIsASnapshot();
        theOneBehindOneGoneIsASnapshot();
        sizesOfSnapshots();
        hunksBeforeBetweenAndBehind();
        noHunks();
        nothingInCommon();
        hunksOfOneSide();
        emptyLinesCount();
        theLongestListIsCommon();
        tiesPassTheOlderTextFirst();
        manyLines();
        theOneBeforeIsCompared();
        check.end();
    }

    private static void everyIsKeptInBounds() {
        check.about("1 a new object: K is every, but 1 if that is less and 5 if it is more");
        for (int every : new int[] {Integer.MIN_VALUE, -256, -5, -1, 0, 1}) {
            stepsAre(every, "000000000000000000000000");
        }
        stepsAre(2, "010101010101010101010101");
        stepsAre(3, "012012012012012012012012");
        stepsAre(4, "012301230123012301230123");
        for (int every : new int[] {5, 6, 7, 10, 258, 65537, Integer.MAX_VALUE}) {
            stepsAre(every, "012340123401234012340123");
        }
    }

    private static void stepsAre(int every, String due) {
        SharedPages x = new SharedPages(every);
        StringBuilder steps = new StringBuilder();
        StringBuilder sizes = new StringBuilder();
        x.type('a');
        for (int n = 1; n <= due.length(); n++) {
            x.save(Desk.B, n - 1);
            steps.append(x.load(Desk.B, n));
            sizes.append(x.size(Desk.B, n));
        }
        check.equal("steps with every " + every, steps.toString(), due);
        // The same text again is a delta of size 0, but a snapshot of size 1.
        check.equal("sizes with every " + every, sizes.toString(), due.replaceAll("[1-4]", "x").replace('0', '1').replace('x', '0'));
    }

    private static void theFirstIsASnapshot() {
        check.about("FORMS: n - 1 is no multiple of K (0 is one)");
        for (int every = 1; every <= 5; every++) {
            SharedPages x = new SharedPages(every);
            Desk.save(x, Desk.A, "ab\nc");
            check.equal("size of the first", x.size(Desk.A, 1), 4);
            check.equal("steps of the first", x.load(Desk.A, 1), 0);
        }
    }

    private static void everyKthIsASnapshot() {
        check.about("FORMS: a DELTA, if n - 1 is no multiple of K; STEPS: 1 more than those of the one before");
        SharedPages x = new SharedPages(2);
        Desk.save(x, Desk.A, "a\nb");
        Desk.save(x, Desk.A, "a\nc");
        Desk.save(x, Desk.A, "a\nd");
        check.equal("size of 2", x.size(Desk.A, 2), 3 + 2);
        check.equal("steps of 2", x.load(Desk.A, 2), 1);
        check.equal("size of 3", x.size(Desk.A, 3), 3);
        check.equal("steps of 3", x.load(Desk.A, 3), 0);
    }

    private static void pagesAreCountedApart() {
        check.about("FORMS: Revision n of a page");
        SharedPages x = new SharedPages(2);
        Desk.save(x, Desk.A, "a");
        Desk.save(x, Desk.B, "b");
        Desk.save(x, Desk.B, "b");
        Desk.save(x, Desk.A, "a");
        check.equal("steps of B's first", x.load(Desk.B, 1), 0);
        check.equal("steps of B's second", x.load(Desk.B, 2), 1);
        check.equal("size of B's second", x.size(Desk.B, 2), 0);
        check.equal("steps of A's second", x.load(Desk.A, 2), 1);
    }

    private static void oneGoneIsASnapshot() {
        check.about("FORMS: a DELTA, if it is not gone; SIZE of a snapshot: 0 if gone; STEPS 0 if it is a snapshot");
        SharedPages x = new SharedPages(5);
        Desk.save(x, Desk.A, "abc");
        Desk.save(x, Desk.A, "abd");
        x.remove(Desk.A);
        check.equal("size of one gone", x.size(Desk.A, 3), 0);
        check.equal("steps of one gone", x.load(Desk.A, 3), 0);
    }

    private static void theOneBehindOneGoneIsASnapshot() {
        check.about("FORMS: a DELTA, if revision n - 1 is not gone");
        SharedPages x = new SharedPages(5);
        Desk.save(x, Desk.A, "abc");
        x.remove(Desk.A);
        Desk.save(x, Desk.A, "abc");
        Desk.save(x, Desk.A, "abc");
        Desk.save(x, Desk.A, "abc");
        Desk.save(x, Desk.A, "abc");
        check.equal("steps behind one gone", x.load(Desk.A, 3), 0);
        check.equal("its size", x.size(Desk.A, 3), 3);
        check.equal("steps behind that", x.load(Desk.A, 4), 1);
        check.equal("its size", x.size(Desk.A, 4), 0);
        check.equal("steps of the fifth", x.load(Desk.A, 5), 2);
        check.equal("steps of the sixth", x.load(Desk.A, 6), 0);
        check.equal("its size", x.size(Desk.A, 6), 3);
        x.remove(Desk.A);
        x.revert(Desk.A, 1);
        check.equal("steps of a revert behind one gone", x.load(Desk.A, 8), 0);
        check.equal("its size", x.size(Desk.A, 8), 3);
    }

    private static void sizesOfSnapshots() {
        check.about("SIZE of a snapshot: the number of characters");
        SharedPages x = new SharedPages(1);
        String[] texts = {"", "a", "a\n", "\n".repeat(40), Scenes.FORTY};
        for (int k = 0; k < texts.length; k++) {
            Desk.save(x, Desk.D, texts[k]);
            check.equal("size of snapshot " + k, x.size(Desk.D, k + 1), texts[k].length());
        }
    }

    private static void hunksBeforeBetweenAndBehind() {
        check.about("HUNKS: before, between and behind neighbouring common lines; SIZE: for each hunk 3");
        delta("a\nb", "c\nb", 3 + 2);
        delta("a\nb\nc", "a\nxx\nc", 3 + 3);
        delta("a\nb", "a\nccc", 3 + 4);
        delta("a\nb\nc", "x\nb\nyyy", 3 + 2 + 3 + 4);
        delta("a\nb\nc", "a\nxx\nyy\nc", 3 + 3 + 3);
        delta("a\nb", "c\na\nb\nd", 3 + 2 + 3 + 2);
        delta("0\n1\n2\n3\n4\n5\n6\n7\n8\n9", "x\n1\nx\n3\nx\n5\nx\n7\nx\n9", 5 * 5);
    }

    private static void noHunks() {
        check.about("HUNKS: if not both are none");
        delta("a", "a", 0);
        delta("", "", 0);
        delta("a\nb\nc", "a\nb\nc", 0);
        delta("\n".repeat(40), "\n".repeat(40), 0);
        delta(Scenes.FORTY, Scenes.FORTY, 0);
    }

    private static void nothingInCommon() {
        check.about("HUNKS of texts that have no line in common");
        delta("a", "b", 3 + 2);
        delta("ab", "", 3 + 1);
        delta("", "ab", 3 + 3);
        delta("a\nb", "c\nd\ne", 3 + 2 + 2 + 2);
    }

    private static void hunksOfOneSide() {
        check.about("HUNKS: the lines of X and of Y there, if not both are none; SIZE: each line of its own in hunks");
        delta("a\nb\nc", "a\nc", 3);
        delta("a\nb\nc", "b\nc", 3);
        delta("a\nb\nc", "a\nb", 3);
        delta("a\nc", "a\nbb\nc", 3 + 3);
        delta("b\nc", "a\nb\nc", 3 + 2);
        delta("a\nb", "a\nb\nc", 3 + 2);
    }

    private static void emptyLinesCount() {
        check.about("SIZE of a delta: for each line of its own in hunks the number of its characters and 1");
        delta("a\n\nb", "a\nb", 3);
        delta("a\nb", "a\n\nb", 3 + 1);
        delta("", "\n", 3 + 1);
        delta("\n", "", 3);
        delta("a", "\n\n", 3 + 1 + 1 + 1);
        delta("\n".repeat(40), "\n".repeat(39), 3);
        delta("\n".repeat(39), "\n".repeat(40), 3 + 1);
        delta("a", "\n".repeat(40), 3 + 41);
        delta("\n".repeat(40), Scenes.FORTY, 3 + 41);
    }

    private static void theLongestListIsCommon() {
        check.about("COMMON LINES: m(i, j) the greatest number of lines that can be left over");
        delta("x\na\nb\nc", "a\nb\nc\nx", 3 + 3 + 2);
        delta("a\nb\nc\nx", "x\na\nb\nc", 3 + 2 + 3);
        delta("a\nb\nc\nd", "d\nc\nb\na", 3 + 3 + 2 + 2 + 2);
        delta("a\nbb\na\nbb", "bb\na\nbb\na", 3 + 3 + 2);
    }

    private static void tiesPassTheOlderTextFirst() {
        check.about("COMMON LINES: if m(i + 1, j) is at least m(i, j + 1), i grows by 1, else j");
        delta("aaaa\nb", "b\naaaa", 3 + 3 + 5);
        delta("b\naaaa", "aaaa\nb", 3 + 3 + 2);
        delta("a\nb\na\nb", "b\na\nb\na", 3 + 3 + 2);
    }

    /** Every second empty line gets a neighbour: more is told than the text has characters. */
    private static void manyLines() {
        check.about("SIZE of a delta may be greater than a text's forty characters");
        delta("\n".repeat(40), "a\n\n".repeat(13) + "b", 13 * (3 + 2) + 3 + 2);
    }

    private static void theOneBeforeIsCompared() {
        check.about("SIZE: from the text of revision n - 1 to its own");
        SharedPages x = new SharedPages(5);
        Desk.save(x, Desk.A, "a");
        Desk.save(x, Desk.A, "a\nb");
        Desk.save(x, Desk.A, "a\nb\nc");
        check.equal("size of the third", x.size(Desk.A, 3), 3 + 2);
        x.revert(Desk.A, 1);
        check.equal("size of the revert", x.size(Desk.A, 4), 3);
        check.equal("steps of the revert", x.load(Desk.A, 4), 3);
    }

    private static void delta(String from, String to, int due) {
        SharedPages x = new SharedPages(5);
        Desk.save(x, Desk.C, from);
        Desk.save(x, Desk.C, to);
        check.equal("size from \"" + from + "\" to \"" + to + "\"", x.size(Desk.C, 2), due);
        check.equal("steps of the delta", x.load(Desk.C, 2), 1);
        check.equal("text of the delta", Desk.draft(x), to);
        check.equal("text before the delta", Desk.text(x, Desk.C, 1), from);
    }
}
