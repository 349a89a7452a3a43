/** "While it is down, calls with a page are refused.": and the others are not. */
final class DownTest {
    private static final Check check = new Check();

    public static void main(String[] args) {
        callsWithAPage(Scenes.downAndOpen());
        callsWithAPage(Scenes.downAndClosed());
        callsWithAPageOnceMore(Scenes.downAndOpen());
        callsWithAPageOnceMore(Scenes.downAndClosed());
        theDraft(Scenes.downAndOpen());
        theDraft(Scenes.downAndClosed());
        whatWasShown(Scenes.downAndOpen());
        writes();
        upAgain();
        check.end();
    }

    private static void callsWithAPage(SharedPages x) {
        for (int page = -1; page <= Desk.PAGES; page++) {
            check.about("8 save: -1 (refused) if the wiki is down");
            for (int base = 0; base <= 4; base++) {
                check.equal("save(" + page + ", " + base + ")", x.save(page, base), -1);
            }
            check.about("9 revert: Answers as save(): -1 (refused) if the wiki is down");
            check.equal("revert(" + page + ", 1)", x.revert(page, 1), -1);
            check.about("10 remove: Answers as save(): -1 (refused) if the wiki is down");
            check.equal("remove(" + page + ")", x.remove(page), -1);
            check.about("11 load: -1 (refused) if the wiki is down");
            check.equal("load(" + page + ", 1)", x.load(page, 1), -1);
            check.about("12 latest: -1 if the wiki is down");
            check.equal("latest(" + page + ")", x.latest(page), -1);
            check.about("13 there: (and the wiki is up)");
            check.equal("there(" + page + ")", x.there(page), false);
        }
    }

    private static void callsWithAPageOnceMore(SharedPages x) {
        for (int page = -1; page <= Desk.PAGES; page++) {
            check.about("14 size: -1 if the wiki is down");
            for (int revision = 0; revision <= 4; revision++) {
                check.equal("size(" + page + ", " + revision + ")", x.size(page, revision), -1);
            }
            check.about("15 links: -1 if the wiki is down");
            check.equal("links(" + page + ")", x.links(page), -1);
            check.about("16 backlinks: -1 if the wiki is down");
            check.equal("backlinks(" + page + ")", x.backlinks(page), -1);
            check.about("17 show: -1 if the wiki is down");
            check.equal("show(" + page + ")", x.show(page), -1);
        }
    }

    private static void theDraft(SharedPages x) {
        check.about("While it is down, calls with a page are refused (those with the draft are not)");
        check.equal("length", x.length(), 7);
        check.equal("at", x.at(4), 't');
        check.equal("type", x.type('!'), true);
        check.equal("put", x.put(0, '?'), true);
        check.equal("draft", Desk.draft(x), "one?\ntwo!");
        check.equal("drop", x.drop(0), true);
        check.equal("draft then", Desk.draft(x), "two!");
        x.clear();
        check.equal("length then", x.length(), 0);
        check.equal("type of a line end", x.type('\n'), true);
    }

    private static void whatWasShown(SharedPages x) {
        check.about("18 shown while down");
        check.equal("shown", Desk.screen(x), "<p>a <a>C</a> d</p>");
    }

    private static void writes() {
        check.about("21 writes while down");
        SharedPages x = Scenes.downAndClosed();
        SharedPages before = Scenes.busy();
        check.equal("writes", x.writes(), before.writes() + 4);
    }

    private static void upAgain() {
        check.about("20 recover: the wiki is up then");
        SharedPages x = Scenes.downAndOpen();
        x.recover(1);
        check.equal("latest", x.latest(Desk.A), 3);
        check.equal("there", x.there(Desk.A), true);
        check.equal("size", x.size(Desk.A, 1), 3);
        check.equal("links", x.links(Desk.A), 4);
        check.equal("backlinks", x.backlinks(Desk.C), 1);
        check.equal("show", x.show(Desk.C), "<ul><li>c</li></ul><p><u>B</u></p>".length());
        check.equal("cut", x.cut(Integer.MAX_VALUE), true);
        check.equal("save", x.save(Desk.A, 3), 4);
        check.equal("load", x.load(Desk.A, 1), 0);
        check.equal("revert", x.revert(Desk.A, 1), 5);
        check.equal("remove", x.remove(Desk.A), 6);
    }
}
