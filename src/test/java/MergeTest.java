/** Promise 8: what save makes of a draft over an older revision. */
final class MergeTest {
    private static final int CONFLICT = -2;
    private static final int TOO_LONG = -3;
    private static final Check check = new Check();

    public static void main(String[] args) {
        oneSideChanged();
        bothChanged();
        bothTheSame();
        conflicts();
        insertsAndTakesOut();
        overNothing();
        overOneGone();
        tooLong();
        theDraftOverTheLatestIsNotMerged();
        refusedMergesChangeNothing();
        check.end();
    }

    /** Makes o, then a over it, and saves b over o. */
    private static SharedPages merge(String o, String a, String b) {
        SharedPages x = new SharedPages(5);
        Desk.save(x, Desk.A, o);
        Desk.save(x, Desk.A, a);
        Desk.write(x, b);
        return x;
    }

    private static void merged(String o, String a, String b, String due) {
        SharedPages x = merge(o, a, b);
        String what = "merge of \"" + a + "\" and \"" + b + "\" over \"" + o + "\"";
        check.equal(what, x.save(Desk.A, 1), 3);
        check.equal("the draft stays", Desk.draft(x), b);
        check.equal(what, Desk.text(x, Desk.A, 3), due);
    }

    private static void refused(String o, String a, String b, int due) {
        SharedPages x = merge(o, a, b);
        check.equal("merge of \"" + a + "\" and \"" + b + "\" over \"" + o + "\"", x.save(Desk.A, 1), due);
    }

    private static void oneSideChanged() {
        merged("a\nb\nc", "a\nb\nc", "a\nX\nc", "a\nX\nc");
        merged("a\nb\nc", "a\nX\nc", "a\nb\nc", "a\nX\nc");
        merged("a", "a", "", "");
        merged("a", "", "a", "");
        merged("", "a\nb", "", "a\nb");
        merged("", "", "a\nb", "a\nb");
    }

    private static void bothChanged() {
        merged("a\nb\nc", "X\nb\nc", "a\nb\nY", "X\nb\nY");
        merged("a\nb\nc", "a\nb\nY", "X\nb\nc", "X\nb\nY");
        merged("a\nb\nc\nd\ne", "a\nX\nc\nd\ne", "a\nb\nc\nY\ne", "a\nX\nc\nY\ne");
        merged("a\nb\nc", "a1\nb\nc", "a\nb\nc\nd", "a1\nb\nc\nd");
    }

    private static void bothTheSame() {
        merged("a\nb\nc", "a\nX\nc", "a\nX\nc", "a\nX\nc");
        merged("a", "b", "b", "b");
        merged("a\nb", "a", "a", "a");
        merged("a\nb\nc", "X\nb\nY", "X\nb\nY", "X\nb\nY");
    }

    private static void conflicts() {
        refused("a", "b", "c", CONFLICT);
        refused("a\nb\nc", "a\nX\nc", "a\nY\nc", CONFLICT);
        refused("a\nb\nc", "a\nc", "a\nY\nc", CONFLICT);
        refused("a\nb\nc", "a\nX\nc", "a\nc", CONFLICT);
        refused("a\nb", "X\nb", "a\nY", CONFLICT);
        refused("x\ny", "x", "y", CONFLICT);
        refused("a\na\na", "a\na", "a\na\na\nb", CONFLICT);
        refused("a\nb", "a\nX\nb", "a\nY\nb", CONFLICT);
        refused("a\nb\nc", "X\nb\nc", "Y\nb\nc", CONFLICT);
        refused("a\nb\nc", "a\nb\nX", "a\nb\nY", CONFLICT);
    }

    private static void insertsAndTakesOut() {
        merged("a\nb", "a\nX\nb", "a\nb", "a\nX\nb");
        merged("a\nb", "a\nb", "a\nX\nb", "a\nX\nb");
        merged("a\nb\nc", "X\na\nb\nc", "a\nb\nc\nY", "X\na\nb\nc\nY");
        merged("a\nb\nc", "b\nc", "a\nb", "b");
        merged("a\nb\nc\nd", "a\nc\nd", "a\nb\nc", "a\nc");
        merged("a\nb\nc", "a\nX\nb\nc", "a\nb\nY\nc", "a\nX\nb\nY\nc");
        merged("a\na\na", "a\na", "b\na\na\na", "b\na\na");
        merged("a\n\nb", "a\nb", "a\n\nb\n", "a\nb\n");
    }

    private static void overNothing() {
        SharedPages x = new SharedPages(5);
        Desk.save(x, Desk.A, "a");
        check.equal("another over 0", Desk.save(x, Desk.A, 0, "b"), CONFLICT);
        check.equal("the same over 0", Desk.save(x, Desk.A, 0, "a"), 2);
        check.equal("the same", Desk.text(x, Desk.A, 2), "a");
        check.equal("nothing over 0", Desk.save(x, Desk.A, 0, ""), 3);
        check.equal("as it was", Desk.text(x, Desk.A, 3), "a");
        check.equal("with the empty line of 0", Desk.save(x, Desk.A, 0, "\nb"), CONFLICT);
        Desk.save(x, Desk.A, "a\n");
        check.equal("before and behind that line", Desk.save(x, Desk.A, 0, "\nb"), 5);
        check.equal("both", Desk.text(x, Desk.A, 5), "a\n\nb");
    }

    private static void overOneGone() {
        SharedPages x = new SharedPages(5);
        Desk.save(x, Desk.A, "a");
        x.remove(Desk.A);
        check.equal("what was there over it", Desk.save(x, Desk.A, 1, "a"), 3);
        check.equal("is empty", Desk.text(x, Desk.A, 3), "");
        check.equal("but there", x.there(Desk.A), true);
        check.equal("over one gone", Desk.save(x, Desk.A, 2, "b"), 4);
        check.equal("is the draft", Desk.text(x, Desk.A, 4), "b");
        x.remove(Desk.A);
        check.equal("changed against gone", Desk.save(x, Desk.A, 4, "c"), CONFLICT);
        check.equal("over the one gone", Desk.save(x, Desk.A, 5, "c"), 6);
    }

    private static void tooLong() {
        String line = "0123456789012345678";
        merged(line, "a\n" + line, line + "\n" + "b".repeat(18), "a\n" + line + "\n" + "b".repeat(18));
        refused(line, "a\n" + line, line + "\n" + "b".repeat(19), TOO_LONG);
        refused(line, "a".repeat(20) + "\n" + line, line + "\n" + "b".repeat(20), TOO_LONG);
        refused("\n".repeat(20), "x" + "\n".repeat(39), "\n".repeat(40), CONFLICT);
        refused("a", "\n".repeat(30) + "a", "a" + "\n".repeat(30), TOO_LONG);
        // A conflict behind the fortieth character is still told as one.
        refused("a\nb", "x".repeat(30) + "\na\nc", "a\nd", CONFLICT);
        refused("a\nm\nb", "x".repeat(30) + "\na\nm\nc", "a\n" + "y".repeat(20) + "\nm\nd", CONFLICT);
    }

    private static void theDraftOverTheLatestIsNotMerged() {
        SharedPages x = new SharedPages(5);
        Desk.save(x, Desk.A, "a");
        Desk.save(x, Desk.A, "b");
        check.equal("over the latest", Desk.save(x, Desk.A, 2, "c"), 3);
        check.equal("the draft as it is", Desk.text(x, Desk.A, 3), "c");
        check.equal("over the one before", Desk.save(x, Desk.A, 2, "d"), CONFLICT);
    }

    private static void refusedMergesChangeNothing() {
        SharedPages x = merge("a", "b", "c");
        int writes = x.writes();
        x.cut(0);
        check.equal("a conflict", x.save(Desk.A, 1), CONFLICT);
        check.equal("latest stays", x.latest(Desk.A), 2);
        check.equal("the draft stays", Desk.draft(x), "c");
        check.equal("no writes", x.writes(), writes);
        check.equal("the cut stays set", x.save(Desk.A, 2), -5);
        SharedPages y = merge("a", "\n".repeat(30) + "a", "a" + "\n".repeat(30));
        writes = y.writes();
        check.equal("too long", y.save(Desk.A, 1), TOO_LONG);
        check.equal("latest stays then", y.latest(Desk.A), 2);
        check.equal("no writes then", y.writes(), writes);
        check.equal("the draft stays then", y.length(), 31);
    }
}
