/** The calls of README.md's example answer what README.md tells. */
final class ReadmeTest {
    private static final Check check = new Check();
    private static final SharedPages pages = new SharedPages(3);

    public static void main(String[] args) {
        twoRevisions();
        conflict();
        show();
        cutOff();
        check.end();
    }

    private static void twoRevisions() {
        check.about("README: save");
        check.equal("type('h')", pages.type('h'), true);
        check.equal("type('i')", pages.type('i'), true);
        check.equal("save(0, 0)", pages.save(0, 0), 1);
        check.equal("put(0, '!')", pages.put(0, '!'), true);
        check.equal("draft", Desk.draft(pages), "hi!");
        check.equal("save(0, 1)", pages.save(0, 1), 2);
        check.equal("size(0, 2)", pages.size(0, 2), 7);
    }

    private static void conflict() {
        check.about("README: save over an older revision");
        check.equal("load(0, 1)", pages.load(0, 1), 0);
        check.equal("draft", Desk.draft(pages), "hi");
        check.equal("type line end", pages.type('\n'), true);
        check.equal("save(0, 1)", pages.save(0, 1), -2);
        check.equal("load(0, 2)", pages.load(0, 2), 1);
        check.equal("draft", Desk.draft(pages), "hi!");
    }

    private static void show() {
        check.about("README: show");
        check.equal("show(0)", pages.show(0), 10);
        check.equal("shown(3)", pages.shown(3), 'h');
        check.equal("screen", Desk.screen(pages), "<p>hi!</p>");
    }

    private static void cutOff() {
        check.about("README: cut");
        check.equal("cut(1)", pages.cut(1), true);
        check.equal("remove(0)", pages.remove(0), -5);
        check.equal("latest(0)", pages.latest(0), -1);
        check.equal("recover(10)", pages.recover(10), 1);
        check.equal("there(0)", pages.there(0), false);
        check.equal("revert(0, 2)", pages.revert(0, 2), 4);
        check.equal("text 4", Desk.text(pages, 0, 4), "hi!");
    }
}
