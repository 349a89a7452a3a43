/** Objects in the middle of their use, made by the same calls each time. */
final class Scenes {
    static final String FORTY = "0123456789012345678901234567890123456789";

    private Scenes() {
    }

    /** Up, with a draft, revisions of A, B (gone), C and F, something shown and a cut set. */
    static SharedPages busy() {
        SharedPages x = new SharedPages(3);
        Desk.save(x, Desk.A, "a\nb");
        Desk.save(x, Desk.A, "a\n[[C]]");
        Desk.save(x, Desk.A, "a\n[[C]]\nd");
        Desk.save(x, Desk.B, "{{A}}");
        x.remove(Desk.B);
        Desk.save(x, Desk.C, "* c\n[[B]]");
        Desk.save(x, Desk.F, "f");
        x.show(Desk.A);
        Desk.write(x, "one\ntwo");
        x.cut(2);
        return x;
    }

    static SharedPages busyWithForty() {
        SharedPages x = busy();
        Desk.write(x, FORTY);
        return x;
    }

    /** Over revision 1 of A, this draft is in conflict with the latest one. */
    static SharedPages busyWithConflict() {
        SharedPages x = busy();
        Desk.write(x, "a\nz");
        return x;
    }

    /** Over revision 2 of A, this draft is merged to forty-one characters. */
    static SharedPages busyWithTooMuch() {
        SharedPages x = busy();
        Desk.write(x, "x".repeat(31) + "\na\n[[C]]");
        return x;
    }

    /** Down; a new text of A with three blocks was cut off before the journal was closed. */
    static SharedPages downAndOpen() {
        return down(3);
    }

    /** Down; the same text was cut off behind the write that closed the journal. */
    static SharedPages downAndClosed() {
        return down(4);
    }

    /** Up, with all 24 revisions made, B gone and a cut set. */
    static SharedPages full() {
        SharedPages x = new SharedPages(5);
        Desk.save(x, Desk.A, "a\nb");
        Desk.save(x, Desk.A, "a\nc");
        Desk.save(x, Desk.B, "[[A]]");
        x.remove(Desk.B);
        Desk.write(x, "c");
        Desk.saveAgain(x, Desk.C, 20);
        x.show(Desk.A);
        Desk.write(x, "a\nd");
        x.cut(2);
        return x;
    }

    private static SharedPages down(int writes) {
        SharedPages x = busy();
        Desk.write(x, "0123456789\n123456");
        x.cut(writes);
        x.save(Desk.A, 3);
        Desk.write(x, "one\ntwo");
        return x;
    }
}
