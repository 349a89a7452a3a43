/** Promise 8 and the term merging: what save makes of a draft over an older revision. */
final class MergeTest {
    private static final int CONFLICT = -2;
    private static final int TOO_LONG = -3;
    private static final Check check = new Check();

    public static void main(String[] args) {
        oneSideChanged();
        bothChanged();
        bothTheSame();
        conflicts();
        linesPutInAndTakenOut();
        noLineIsCommonToAllThree();
        theEndsOfTheTexts();
        tiesOfCommonLines();
        manyLines();
        overNoRevision();
        overOneGone();
        withOneGone();
        overEveryOlderOne();
        overTheLatestIsNotMerged();
        atMostFortyCharacters();
        aConflictComesFirst();
        check.end();
    }

    /** Makes o, then a over it, and has b in the draft. */
    private static SharedPages ready(String o, String a, String b) {
        SharedPages x = new SharedPages(5);
        Desk.save(x, Desk.A, o);
        Desk.save(x, Desk.A, a);
        Desk.write(x, b);
        return x;
    }

    private static String name(String o, String a, String b) {
        return "merge of \"" + a + "\" and \"" + b + "\" over \"" + o + "\"";
    }

    private static void merged(String o, String a, String b, String due) {
        SharedPages x = ready(o, a, b);
        check.equal(name(o, a, b), x.save(Desk.A, 1), 3);
        check.equal("the draft after it", Desk.draft(x), b);
        check.equal(name(o, a, b), Desk.text(x, Desk.A, 3), due);
    }

    private static void refused(String o, String a, String b, int due) {
        SharedPages x = ready(o, a, b);
        check.equal(name(o, a, b), x.save(Desk.A, 1), due);
        check.equal("latest after it", x.latest(Desk.A), 2);
        check.equal("the draft after it", Desk.draft(x), b);
    }

    private static void oneSideChanged() {
        check.about("MERGING: if the lines of A are those of O, the lines of B are put out; else if those of B are those of O, those of A are");
        merged("a\nb\nc", "a\nb\nc", "a\nX\nc", "a\nX\nc");
        merged("a\nb\nc", "a\nX\nc", "a\nb\nc", "a\nX\nc");
        merged("a", "a", "", "");
        merged("a", "", "a", "");
        merged("", "a\nb", "", "a\nb");
        merged("", "", "a\nb", "a\nb");
        merged("a", "a", "a", "a");
    }

    private static void bothChanged() {
        check.about("MERGING: a line of O that is common both with a line of A and of B is put out");
        merged("a\nb\nc", "X\nb\nc", "a\nb\nY", "X\nb\nY");
        merged("a\nb\nc", "a\nb\nY", "X\nb\nc", "X\nb\nY");
        merged("a\nb\nc\nd\ne", "a\nX\nc\nd\ne", "a\nb\nc\nY\ne", "a\nX\nc\nY\ne");
        merged("a\nb\nc", "a1\nb\nc", "a\nb\nc\nd", "a1\nb\nc\nd");
    }

    private static void bothTheSame() {
        check.about("MERGING: or those of A are those of B, those of A are put out");
        merged("a\nb\nc", "a\nX\nc", "a\nX\nc", "a\nX\nc");
        merged("a", "b", "b", "b");
        merged("a\nb", "a", "a", "a");
        merged("a\nb\nc", "X\nb\nY", "X\nb\nY", "X\nb\nY");
    }

    private static void conflicts() {
        check.about("MERGING: else there is a CONFLICT; 8 save: else -2 (refused) if there is a conflict");
        refused("a", "b", "c", CONFLICT);
        refused("a\nb\nc", "a\nX\nc", "a\nY\nc", CONFLICT);
        refused("a\nb\nc", "a\nc", "a\nY\nc", CONFLICT);
        refused("a\nb\nc", "a\nX\nc", "a\nc", CONFLICT);
        refused("a\nb", "a\nX\nb", "a\nY\nb", CONFLICT);
        refused("a\nb", "a\nX\nb", "a\nX\nX\nb", CONFLICT);
        refused("a\nb\nc", "X\nb\nc", "Y\nb\nc", CONFLICT);
        refused("a\nb\nc", "a\nb\nX", "a\nb\nY", CONFLICT);
    }

    private static void linesPutInAndTakenOut() {
        check.about("MERGING: the lines a to a' - 1, which may be none");
        merged("a\nb", "a\nX\nb", "a\nb", "a\nX\nb");
        merged("a\nb", "a\nb", "a\nX\nb", "a\nX\nb");
        merged("a\nb\nc", "X\na\nb\nc", "a\nb\nc\nY", "X\na\nb\nc\nY");
        merged("a\nb\nc", "b\nc", "a\nb", "b");
        merged("a\nb\nc\nd", "a\nc\nd", "a\nb\nc", "a\nc");
        merged("a\nb\nc", "a\nX\nb\nc", "a\nb\nY\nc", "a\nX\nb\nY\nc");
        merged("a\na\na", "a\na", "b\na\na\na", "b\na\na");
        merged("a\n\nb", "a\nb", "a\n\nb\n", "a\nb\n");
        refused("a\na\na", "a\na", "a\na\na\nb", CONFLICT);
    }

    private static void noLineIsCommonToAllThree() {
        check.about("MERGING: or, if there is none, let o', a', b' be the numbers of lines of O, A, B");
        refused("x\ny", "x", "y", CONFLICT);
        refused("a\nb", "X\nb", "a\nY", CONFLICT);
        merged("a\nb", "c\nd", "a\nb", "c\nd");
        merged("a\nb", "a\nb", "c", "c");
        merged("a\nb", "c\nd\ne", "c\nd\ne", "c\nd\ne");
    }

    private static void theEndsOfTheTexts() {
        check.about("MERGING: When no line is left in any of the three");
        merged("a\nb", "a\nb\nc", "a\nb", "a\nb\nc");
        merged("a\nb", "a\nb", "a\nb\nc", "a\nb\nc");
        merged("a\nb", "a\nb\nc", "a\nb\nc", "a\nb\nc");
        merged("a\nb\nc", "a", "a\nb\nc", "a");
        merged("a\nb\nc", "a\nb\nc", "a", "a");
        merged("a", "a\n", "a", "a\n");
        refused("a", "a\nb", "a\nc", CONFLICT);
        refused("a\nb", "a", "a\nb\nc", CONFLICT);
    }

    /** Of "a\nb" and "b\na" it is b that is common, by the rule for equal numbers. */
    private static void tiesOfCommonLines() {
        check.about("MERGING: common by the common lines of O and A, of O and B");
        refused("a\nb", "b\na", "a", CONFLICT);
        merged("a\nb", "b\na", "b", "b\na");
        refused("a\nb", "a", "b\na", CONFLICT);
        merged("a\nb", "b", "b\na", "b\na");
    }

    private static void manyLines() {
        check.about("MERGING of texts with forty-one lines");
        String many = "\n".repeat(40);
        merged(many, many, many, many);
        merged(many, many, many.substring(1), many.substring(1));
        merged(many, many.substring(1), many, many.substring(1));
        merged(many, "a", many, "a");
        merged(many, many, Scenes.FORTY, Scenes.FORTY);
        refused(many, "a", "b", CONFLICT);
    }

    private static void overNoRevision() {
        check.about("8 save: if base is a lesser one (or 0); terms: the text of revision 0 is the empty text");
        SharedPages x = new SharedPages(5);
        Desk.save(x, Desk.A, "a");
        check.equal("another over 0", Desk.save(x, Desk.A, 0, "b"), CONFLICT);
        check.equal("the same over 0", Desk.save(x, Desk.A, 0, "a"), 2);
        check.equal("the same", Desk.text(x, Desk.A, 2), "a");
        check.equal("nothing over 0", Desk.save(x, Desk.A, 0, ""), 3);
        check.equal("as it was", Desk.text(x, Desk.A, 3), "a");
        check.equal("with the empty line of 0", Desk.save(x, Desk.A, 0, "\nb"), CONFLICT);
        Desk.save(x, Desk.A, "a\n");
        check.equal("before and behind that line", Desk.save(x, Desk.A, 0, "\nb"), 5);
        check.equal("both", Desk.text(x, Desk.A, 5), "a\n\nb");
        Desk.save(x, Desk.A, "");
        check.equal("over 0 with an empty one", Desk.save(x, Desk.A, 0, "b"), 7);
        check.equal("the draft", Desk.text(x, Desk.A, 7), "b");
    }

    private static void overOneGone() {
        check.about("Terms: as a text, that of one gone is the empty text (as base)");
        SharedPages x = new SharedPages(5);
        Desk.save(x, Desk.A, "a");
        x.remove(Desk.A);
        Desk.save(x, Desk.A, "c");
        check.equal("another over one gone", Desk.save(x, Desk.A, 2, "d"), CONFLICT);
        check.equal("nothing over one gone", Desk.save(x, Desk.A, 2, ""), 4);
        check.equal("as it was", Desk.text(x, Desk.A, 4), "c");
        Desk.save(x, Desk.A, "c\n");
        check.equal("around the empty line", Desk.save(x, Desk.A, 2, "\nd"), 6);
        check.equal("both", Desk.text(x, Desk.A, 6), "c\n\nd");
    }

    private static void withOneGone() {
        check.about("Terms: as a text, that of one gone is the empty text (as the latest one)");
        SharedPages x = new SharedPages(5);
        Desk.save(x, Desk.A, "a");
        x.remove(Desk.A);
        check.equal("changed against gone", Desk.save(x, Desk.A, 1, "c"), CONFLICT);
        check.equal("unchanged against gone", Desk.save(x, Desk.A, 1, "a"), 3);
        check.equal("is empty", Desk.text(x, Desk.A, 3), "");
        check.equal("but there", x.there(Desk.A), true);
        x.remove(Desk.A);
        check.equal("over 0", Desk.save(x, Desk.A, 0, "c"), 5);
        check.equal("the draft", Desk.text(x, Desk.A, 5), "c");
    }

    private static void overEveryOlderOne() {
        check.about("8 save: if base is a lesser one, with the draft merged with the text of the latest one over the text of base");
        for (int base = 1; base < 5; base++) {
            SharedPages x = new SharedPages(2);
            for (int n = 1; n <= 5; n++) {
                Desk.save(x, Desk.A, "m\n" + n);
            }
            check.equal("over " + base, Desk.save(x, Desk.A, base, "x\nm\n" + base), 6);
            check.equal("merged over " + base, Desk.text(x, Desk.A, 6), "x\nm\n5");
        }
    }

    private static void overTheLatestIsNotMerged() {
        check.about("8 save: with the draft, if base is the number of its latest revision");
        SharedPages x = new SharedPages(5);
        Desk.save(x, Desk.A, "a");
        Desk.save(x, Desk.A, "b");
        check.equal("over the latest", Desk.save(x, Desk.A, 2, "c"), 3);
        check.equal("the draft as it is", Desk.text(x, Desk.A, 3), "c");
        check.equal("over the one before", Desk.save(x, Desk.A, 2, "d"), CONFLICT);
    }

    private static void atMostFortyCharacters() {
        check.about("8 save: else -3 (refused) if the merged text has more than forty characters");
        String line = "0123456789012345678";
        merged(line, "a\n" + line, line + "\n" + "b".repeat(18), "a\n" + line + "\n" + "b".repeat(18));
        refused(line, "a\n" + line, line + "\n" + "b".repeat(19), TOO_LONG);
        refused(line, "a".repeat(20) + "\n" + line, line + "\n" + "b".repeat(20), TOO_LONG);
        merged("a", "\n".repeat(20) + "a", "a" + "\n".repeat(19), "\n".repeat(20) + "a" + "\n".repeat(19));
        refused("a", "\n".repeat(20) + "a", "a" + "\n".repeat(20), TOO_LONG);
        refused("a", "\n".repeat(39) + "a", "a" + "\n".repeat(39), TOO_LONG);
        refused("", "a".repeat(39) + "\n", "\n" + "b".repeat(39), TOO_LONG);
    }

    private static void aConflictComesFirst() {
        check.about("8 save: else -2 if there is a conflict; else -3");
        refused("a\nb", "x".repeat(30) + "\na\nc", "a\nd", CONFLICT);
        refused("a\nm\nb", "x".repeat(30) + "\na\nm\nc", "a\n" + "y".repeat(20) + "\nm\nd", CONFLICT);
        refused("\n".repeat(20), "x" + "\n".repeat(39), "\n".repeat(40), CONFLICT);
    }
}
