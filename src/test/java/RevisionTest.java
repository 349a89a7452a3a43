/** Promises 1 and 8 to 14: revisions, their forms and sizes (merging is in MergeTest). */
final class RevisionTest {
    private static final int[] NO_PAGES = {-1, 6, Integer.MIN_VALUE, Integer.MAX_VALUE};
    private static final Check check = new Check();

    public static void main(String[] args) {
        aNewObjectHasNone();
        everyIsKeptInBounds();
        saveMakesRevisions();
        saveRefuses();
        revertMakesRevisions();
        revertRefuses();
        removeMakesOneGone();
        loadFillsTheDraft();
        loadRefuses();
        sizesOfSnapshots();
        sizesOfDeltas();
        sizeRefuses();
        formsAfterOneGone();
        twentyFourAreMadeInAll();
        refusalsComeInOrder();
        callsAreRefusedWhileDown();
        check.end();
    }

    private static void aNewObjectHasNone() {
        SharedPages x = new SharedPages(3);
        for (int page = 0; page < 6; page++) {
            check.equal("latest of a new one", x.latest(page), 0);
            check.equal("there of a new one", x.there(page), false);
            check.equal("size of a new one", x.size(page, 1), -1);
        }
        check.equal("writes of a new one", x.writes(), 0);
        check.equal("a new one is up", x.recover(1), -1);
        check.equal("no cut is set", x.save(Desk.A, 0), 1);
    }

    private static void everyIsKeptInBounds() {
        stepsAre(Integer.MIN_VALUE, "000000000000");
        stepsAre(-1, "000000000000");
        stepsAre(0, "000000000000");
        stepsAre(1, "000000000000");
        stepsAre(2, "010101010101");
        stepsAre(3, "012012012012");
        stepsAre(4, "012301230123");
        stepsAre(5, "012340123401");
        stepsAre(6, "012340123401");
        stepsAre(Integer.MAX_VALUE, "012340123401");
    }

    private static void stepsAre(int every, String due) {
        SharedPages x = new SharedPages(every);
        StringBuilder steps = new StringBuilder();
        for (int n = 1; n <= due.length(); n++) {
            Desk.save(x, Desk.B, "a".repeat(n));
            steps.append(x.load(Desk.B, n));
        }
        check.equal("steps with every " + every, steps.toString(), due);
    }

    private static void saveMakesRevisions() {
        SharedPages x = new SharedPages(3);
        check.equal("first", Desk.save(x, Desk.A, "one"), 1);
        check.equal("the draft stays", Desk.draft(x), "one");
        check.equal("second", Desk.save(x, Desk.A, 1, "two\nlines"), 2);
        check.equal("the same again", x.save(Desk.A, 2), 3);
        check.equal("another page", x.save(Desk.F, 0), 1);
        check.equal("latest of A", x.latest(Desk.A), 3);
        check.equal("latest of F", x.latest(Desk.F), 1);
        check.equal("latest of B", x.latest(Desk.B), 0);
        x.type('!');
        check.equal("text 1", Desk.text(x, Desk.A, 1), "one");
        check.equal("text 2", Desk.text(x, Desk.A, 2), "two\nlines");
        check.equal("text 3", Desk.text(x, Desk.A, 3), "two\nlines");
        check.equal("there", x.there(Desk.A), true);
        check.equal("not there", x.there(Desk.E), false);
        check.equal("an empty text", Desk.save(x, Desk.E, ""), 1);
        check.equal("there with an empty text", x.there(Desk.E), true);
    }

    private static void saveRefuses() {
        SharedPages x = new SharedPages(3);
        Desk.save(x, Desk.A, "one");
        for (int page : NO_PAGES) {
            check.equal("save(" + page + ", 0)", x.save(page, 0), -1);
            check.equal("latest(" + page + ")", x.latest(page), -1);
            check.equal("there(" + page + ")", x.there(page), false);
        }
        for (int base : new int[] {-1, 2, Integer.MIN_VALUE, Integer.MAX_VALUE}) {
            check.equal("save(A, " + base + ")", x.save(Desk.A, base), -1);
        }
        check.equal("base of another page", x.save(Desk.B, 1), -1);
        check.equal("refused saves change nothing", x.latest(Desk.A), 1);
        check.equal("refused saves write nothing", x.writes(), 4);
    }

    private static void revertMakesRevisions() {
        SharedPages x = new SharedPages(5);
        Desk.save(x, Desk.A, "one");
        Desk.save(x, Desk.A, "two");
        Desk.write(x, "draft");
        check.equal("revert to 1", x.revert(Desk.A, 1), 3);
        check.equal("the draft stays", Desk.draft(x), "draft");
        check.equal("its text", Desk.text(x, Desk.A, 3), "one");
        check.equal("its size", x.size(Desk.A, 3), 3 + 3 + 1);
        check.equal("revert to the latest", x.revert(Desk.A, 3), 4);
        check.equal("no difference", x.size(Desk.A, 4), 0);
        x.remove(Desk.A);
        check.equal("revert one gone", x.revert(Desk.A, 2), 6);
        check.equal("there again", x.there(Desk.A), true);
        check.equal("its text again", Desk.text(x, Desk.A, 6), "two");
        Desk.save(x, Desk.A, "two!");
        check.equal("what was reverted to stays", Desk.text(x, Desk.A, 6), "two");
    }

    private static void revertRefuses() {
        SharedPages x = new SharedPages(3);
        Desk.save(x, Desk.A, "one");
        x.remove(Desk.A);
        int writes = x.writes();
        check.equal("revert to 0", x.revert(Desk.A, 0), -1);
        check.equal("revert to one gone", x.revert(Desk.A, 2), -1);
        check.equal("revert to none", x.revert(Desk.A, 3), -1);
        check.equal("revert to -1", x.revert(Desk.A, -1), -1);
        check.equal("revert to the greatest", x.revert(Desk.A, Integer.MAX_VALUE), -1);
        check.equal("revert to another page's", x.revert(Desk.B, 1), -1);
        for (int page : NO_PAGES) {
            check.equal("revert(" + page + ", 1)", x.revert(page, 1), -1);
        }
        check.equal("refused reverts change nothing", x.latest(Desk.A), 2);
        check.equal("refused reverts write nothing", x.writes(), writes);
    }

    private static void removeMakesOneGone() {
        SharedPages x = new SharedPages(3);
        check.equal("remove without revisions", x.remove(Desk.A), -1);
        Desk.save(x, Desk.A, "one");
        Desk.save(x, Desk.B, "one");
        check.equal("remove", x.remove(Desk.A), 2);
        check.equal("gone", x.there(Desk.A), false);
        check.equal("another one stays", x.there(Desk.B), true);
        check.equal("latest of one gone", x.latest(Desk.A), 2);
        check.equal("size of one gone", x.size(Desk.A, 2), 0);
        check.equal("the draft stays", Desk.draft(x), "one");
        check.equal("remove again", x.remove(Desk.A), -1);
        check.equal("latest is as before", x.latest(Desk.A), 2);
        check.equal("save over one gone", x.save(Desk.A, 2), 3);
        check.equal("there again", x.there(Desk.A), true);
        check.equal("remove once more", x.remove(Desk.A), 4);
        for (int page : NO_PAGES) {
            check.equal("remove(" + page + ")", x.remove(page), -1);
        }
    }

    private static void loadFillsTheDraft() {
        SharedPages x = new SharedPages(5);
        Desk.save(x, Desk.A, "long text\nof two lines");
        Desk.save(x, Desk.A, "b");
        x.remove(Desk.A);
        check.equal("load 1", x.load(Desk.A, 1), 0);
        check.equal("its text", Desk.draft(x), "long text\nof two lines");
        check.equal("load 2", x.load(Desk.A, 2), 1);
        check.equal("its shorter text", Desk.draft(x), "b");
        check.equal("load 3", x.load(Desk.A, 3), 0);
        check.equal("the text of one gone", x.length(), 0);
        x.load(Desk.A, 2);
        x.type('\n');
        x.put(1, 'c');
        check.equal("the draft goes on from it", Desk.draft(x), "b\nc");
        check.equal("the revision does not", Desk.text(x, Desk.A, 2), "b");
    }

    private static void loadRefuses() {
        SharedPages x = new SharedPages(5);
        Desk.save(x, Desk.A, "a");
        Desk.write(x, "draft");
        check.equal("load 0", x.load(Desk.A, 0), -1);
        check.equal("load 2", x.load(Desk.A, 2), -1);
        check.equal("load -1", x.load(Desk.A, -1), -1);
        check.equal("load the greatest", x.load(Desk.A, Integer.MAX_VALUE), -1);
        check.equal("load of another page", x.load(Desk.B, 1), -1);
        for (int page : NO_PAGES) {
            check.equal("load(" + page + ", 1)", x.load(page, 1), -1);
        }
        check.equal("refused loads change nothing", Desk.draft(x), "draft");
    }

    private static void sizesOfSnapshots() {
        SharedPages x = new SharedPages(1);
        String[] texts = {"", "a", "a\n", "0123456789012345678901234567890123456789"};
        for (int k = 0; k < texts.length; k++) {
            Desk.save(x, Desk.D, texts[k]);
            check.equal("size of snapshot " + k, x.size(Desk.D, k + 1), texts[k].length());
        }
    }

    private static void sizesOfDeltas() {
        delta("a", "a", 0);
        delta("a", "b", 3 + 2);
        delta("", "", 0);
        delta("", "ab", 3 + 3);
        delta("ab", "", 3 + 1);
        delta("a\nb\nc", "a\nc", 3);
        delta("a\nb\nc", "b\nc", 3);
        delta("a\nb\nc", "a\nb", 3);
        delta("a\nc", "a\nbb\nc", 3 + 3);
        delta("a\nb\nc", "x\nb\nyyy", 3 + 2 + 3 + 4);
        delta("a\nb\nc", "a\nxx\nyy\nc", 3 + 3 + 3);
        delta("a\nb", "c\na\nb\nd", 3 + 2 + 3 + 2);
        delta("a\n\nb", "a\nb", 3);
        delta("a\nb", "a\n\nb", 3 + 1);
        delta("a\nb", "b\na", 3 + 3 + 2);
        delta("a\nb\nc\nd", "d\nc\nb\na", 3 + 3 + 2 + 2 + 2);
        // The longest list of common lines is taken, not the first lines that are equal.
        delta("x\na\nb\nc", "a\nb\nc\nx", 3 + 3 + 2);
        delta("a\nb\nc\nx", "x\na\nb\nc", 3 + 2 + 3);
        // Of two longest lists the one is taken that passes lines of the older text first.
        delta("aaaa\nb", "b\naaaa", 3 + 3 + 5);
        delta("b\naaaa", "aaaa\nb", 3 + 3 + 2);
        delta("a\nb\na\nb", "b\na\nb\na", 3 + 3 + 2);
        delta("0\n1\n2\n3\n4\n5\n6\n7\n8\n9", "x\n1\nx\n3\nx\n5\nx\n7\nx\n9", 5 * 5);
        delta("\n".repeat(40), "\n".repeat(39), 3);
        delta("\n".repeat(39), "\n".repeat(40), 3 + 1);
    }

    private static void delta(String from, String to, int due) {
        SharedPages x = new SharedPages(5);
        Desk.save(x, Desk.C, from);
        Desk.save(x, Desk.C, to);
        check.equal("size from \"" + from + "\" to \"" + to + "\"", x.size(Desk.C, 2), due);
        check.equal("steps of the delta", x.load(Desk.C, 2), 1);
        check.equal("text of the delta", Desk.draft(x), to);
        check.equal("text before the delta", Desk.text(x, Desk.C, 1), from);
    }

    private static void sizeRefuses() {
        SharedPages x = new SharedPages(5);
        Desk.save(x, Desk.A, "abc");
        check.equal("size 1", x.size(Desk.A, 1), 3);
        check.equal("size 0", x.size(Desk.A, 0), -1);
        check.equal("size 2", x.size(Desk.A, 2), -1);
        check.equal("size -1", x.size(Desk.A, -1), -1);
        check.equal("size the greatest", x.size(Desk.A, Integer.MAX_VALUE), -1);
        check.equal("size of another page", x.size(Desk.B, 1), -1);
        for (int page : NO_PAGES) {
            check.equal("size(" + page + ", 1)", x.size(page, 1), -1);
        }
    }

    private static void formsAfterOneGone() {
        SharedPages x = new SharedPages(5);
        Desk.save(x, Desk.A, "abc");
        Desk.save(x, Desk.A, "abcd");
        x.remove(Desk.A);
        Desk.save(x, Desk.A, "abc");
        Desk.save(x, Desk.A, "abc");
        Desk.save(x, Desk.A, "abc");
        check.equal("a snapshot behind one gone", x.load(Desk.A, 4), 0);
        check.equal("its size", x.size(Desk.A, 4), 3);
        check.equal("a delta behind that", x.load(Desk.A, 5), 1);
        check.equal("its size", x.size(Desk.A, 5), 0);
        check.equal("a snapshot again", x.load(Desk.A, 6), 0);
        check.equal("its size", x.size(Desk.A, 6), 3);
    }

    private static SharedPages withTwentyFour() {
        SharedPages x = new SharedPages(5);
        for (int n = 1; n <= 24; n++) {
            Desk.save(x, n % 2 == 0 ? Desk.A : Desk.B, "t");
        }
        return x;
    }

    private static void twentyFourAreMadeInAll() {
        SharedPages x = withTwentyFour();
        int writes = x.writes();
        check.equal("twelve of A", x.latest(Desk.A), 12);
        check.equal("twelve of B", x.latest(Desk.B), 12);
        check.equal("no save", x.save(Desk.A, 12), -4);
        check.equal("no save elsewhere", x.save(Desk.C, 0), -4);
        check.equal("no revert", x.revert(Desk.A, 1), -4);
        check.equal("no remove", x.remove(Desk.A), -4);
        check.equal("nothing is changed", x.latest(Desk.A), 12);
        check.equal("nothing is written", x.writes(), writes);
        SharedPages y = new SharedPages(1);
        for (int n = 1; n <= 24; n++) {
            check.equal("revision of one page", y.save(Desk.F, n - 1), n);
        }
        check.equal("the 25th", y.save(Desk.F, 24), -4);
        check.equal("the 24th", y.load(Desk.F, 24), 0);
    }

    private static void refusalsComeInOrder() {
        SharedPages x = withTwentyFour();
        check.equal("no such page before -4", x.save(6, 0), -1);
        check.equal("no such base before -4", x.save(Desk.A, 13), -1);
        check.equal("no such revision before -4", x.revert(Desk.A, 13), -1);
        check.equal("not there before -4", x.remove(Desk.C), -1);
        Desk.write(x, "u");
        check.equal("-4 before a conflict", x.save(Desk.A, 0), -4);
    }

    private static void callsAreRefusedWhileDown() {
        SharedPages x = new SharedPages(5);
        Desk.save(x, Desk.A, "abc");
        x.cut(0);
        Desk.write(x, "draft");
        check.equal("cut off", x.save(Desk.B, 0), -5);
        int writes = x.writes();
        check.equal("save while down", x.save(Desk.A, 1), -1);
        check.equal("revert while down", x.revert(Desk.A, 1), -1);
        check.equal("remove while down", x.remove(Desk.A), -1);
        check.equal("load while down", x.load(Desk.A, 1), -1);
        check.equal("latest while down", x.latest(Desk.A), -1);
        check.equal("there while down", x.there(Desk.A), false);
        check.equal("size while down", x.size(Desk.A, 1), -1);
        check.equal("the draft stays", Desk.draft(x), "draft");
        check.equal("no writes while down", x.writes(), writes);
        x.recover(1);
        check.equal("latest after that", x.latest(Desk.A), 1);
        check.equal("there after that", x.there(Desk.A), true);
    }
}
