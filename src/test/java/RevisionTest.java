/** Promises 1 and 8 to 14: pages and revisions (FormTest has their sizes and steps, MergeTest merging). */
final class RevisionTest {
    private static final int[] NO_REVISIONS = {-1, -24, 25, 256, 257, 65536, 65537, Integer.MIN_VALUE, Integer.MAX_VALUE};
    private static final Check check = new Check();

    public static void main(String[] args) {
        aNewObjectHasNone();
        aNewObjectIsUpWithoutACut();
        sixPages();
        saveOverTheLatest();
        saveOverNoRevision();
        saveNeedsAPage();
        saveNeedsABase();
        theDraftStays();
        twentyFourInAll();
        revertsAndRemovalsCount();
        twentyFourOfOnePage();
        refusedAndCutOffOnesAreNotMade();
        refusalsComeInOrder();
        revertMakesRevisions();
        revertNeedsARevision();
        revertOfOneGone();
        removeMakesOneGone();
        removeNeedsAPageThatIsThere();
        loadFillsTheDraft();
        loadOfOneGone();
        loadNeedsARevision();
        latestCounts();
        thereTellsTheLatest();
        sizeNeedsARevision();
        check.end();
    }

    private static SharedPages withSixPages() {
        SharedPages x = new SharedPages(3);
        for (int page = 0; page < Desk.PAGES; page++) {
            Desk.save(x, page, "[[A]][[F]]");
        }
        return x;
    }

    private static void aNewObjectHasNone() {
        check.about("1 a new object: No revisions");
        SharedPages x = new SharedPages(3);
        for (int page = 0; page < Desk.PAGES; page++) {
            check.equal("latest", x.latest(page), 0);
            check.equal("there", x.there(page), false);
            check.equal("size of 1", x.size(page, 1), -1);
            check.equal("load of 1", x.load(page, 1), -1);
            check.equal("links", x.links(page), 0);
            check.equal("backlinks", x.backlinks(page), 0);
            check.equal("show", x.show(page), -1);
        }
        check.equal("writes", x.writes(), 0);
        check.equal("shown(0)", x.shown(0), -1);
    }

    private static void aNewObjectIsUpWithoutACut() {
        check.about("1 a new object: up, no cut set");
        SharedPages x = new SharedPages(3);
        check.equal("recover", x.recover(1), -1);
        check.equal("a large work", Desk.save(x, Desk.A, Scenes.FORTY), 1);
        check.equal("a small work of a new object", new SharedPages(3).save(Desk.F, 0), 1);
        check.equal("cut", new SharedPages(3).cut(0), true);
    }

    private static void sixPages() {
        check.about("Terms: PAGES are 0 .. 5");
        SharedPages x = new SharedPages(3);
        for (int page = 0; page < Desk.PAGES; page++) {
            check.equal("first of page " + page, Desk.save(x, page, "page " + page), 1);
        }
        for (int page = 0; page < Desk.PAGES; page++) {
            check.equal("text of page " + page, Desk.text(x, page, 1), "page " + page);
            check.equal("latest of page " + page, x.latest(page), 1);
            check.equal("page " + page + " there", x.there(page), true);
            check.equal("size of page " + page, x.size(page, 1), 6);
            check.equal("show of page " + page, x.show(page), 6 + 7);
            check.equal("revert of page " + page, x.revert(page, 1), 2);
            check.equal("remove of page " + page, x.remove(page), 3);
            check.equal("page " + page + " gone", x.there(page), false);
        }
    }

    private static void saveOverTheLatest() {
        check.about("8 save: with the draft, if base is the number of its latest revision");
        SharedPages x = new SharedPages(3);
        Desk.save(x, Desk.A, "one");
        check.equal("over 1", Desk.save(x, Desk.A, 1, "two\nlines"), 2);
        check.equal("over 2", Desk.save(x, Desk.A, 2, "three"), 3);
        check.equal("the same over 3", x.save(Desk.A, 3), 4);
        x.type('!');
        check.equal("text 1", Desk.text(x, Desk.A, 1), "one");
        check.equal("text 2", Desk.text(x, Desk.A, 2), "two\nlines");
        check.equal("text 3", Desk.text(x, Desk.A, 3), "three");
        check.equal("text 4", Desk.text(x, Desk.A, 4), "three");
        check.equal("the empty text", Desk.save(x, Desk.A, 4, ""), 5);
        check.equal("its text", Desk.text(x, Desk.A, 5), "");
        check.equal("forty characters", Desk.save(x, Desk.A, 5, Scenes.FORTY), 6);
        check.equal("their text", Desk.text(x, Desk.A, 6), Scenes.FORTY);
        x.remove(Desk.A);
        check.equal("over one gone", Desk.save(x, Desk.A, 7, "eight"), 8);
        check.equal("text 8", Desk.text(x, Desk.A, 8), "eight");
    }

    private static void saveOverNoRevision() {
        check.about("8 save: base is the number of its latest revision (0 if it has none)");
        for (int page = 0; page < Desk.PAGES; page++) {
            SharedPages x = new SharedPages(3);
            Desk.write(x, "text");
            check.equal("over 1", x.save(page, 1), -1);
            check.equal("over 0", x.save(page, 0), 1);
            check.equal("its text", Desk.text(x, page, 1), "text");
        }
    }

    private static void saveNeedsAPage() {
        check.about("8 save: -1 (refused) if there is no such page");
        SharedPages x = new SharedPages(3);
        for (int page : Desk.NO_PAGES) {
            check.equal("save(" + page + ", 0)", x.save(page, 0), -1);
        }
        check.equal("writes", x.writes(), 0);
        SharedPages y = withSixPages();
        for (int page : Desk.NO_PAGES) {
            check.equal("save(" + page + ", 1)", y.save(page, 1), -1);
        }
    }

    private static void saveNeedsABase() {
        check.about("8 save: -1 (refused) if there is no such base");
        SharedPages x = new SharedPages(3);
        Desk.save(x, Desk.A, "one");
        Desk.save(x, Desk.A, "one");
        Desk.save(x, Desk.B, "one");
        for (int base : NO_REVISIONS) {
            check.equal("save(A, " + base + ")", x.save(Desk.A, base), -1);
        }
        check.equal("save(A, 3)", x.save(Desk.A, 3), -1);
        check.equal("save(B, 2)", x.save(Desk.B, 2), -1);
        check.equal("save(C, 1)", x.save(Desk.C, 1), -1);
        check.equal("latest of A", x.latest(Desk.A), 2);
    }

    private static void theDraftStays() {
        check.about("8 save: (The draft stays.)");
        SharedPages x = new SharedPages(3);
        Desk.save(x, Desk.A, "a\nb");
        check.equal("draft after a save", Desk.draft(x), "a\nb");
        Desk.save(x, Desk.A, "a\nb\nc");
        Desk.save(x, Desk.A, 1, "z\na\nb");
        check.equal("draft after a merge", Desk.draft(x), "z\na\nb");
        x.cut(0);
        check.equal("cut off", x.save(Desk.A, 3), -5);
        check.equal("draft after a cut", Desk.draft(x), "z\na\nb");
        x.recover(1);
        check.equal("draft after recovering", Desk.draft(x), "z\na\nb");
        check.equal("conflict", Desk.save(x, Desk.A, 1, "q"), -2);
        check.equal("draft after a conflict", Desk.draft(x), "q");
        x.revert(Desk.A, 1);
        check.equal("draft after a revert", Desk.draft(x), "q");
        x.remove(Desk.A);
        check.equal("draft after a removal", Desk.draft(x), "q");
    }

    private static void twentyFourInAll() {
        check.about("Terms: at most 24 are made in all; 8 save: -4 (refused) if 24 revisions were made");
        SharedPages x = new SharedPages(5);
        for (int n = 1; n <= 4; n++) {
            for (int page = 0; page < Desk.PAGES; page++) {
                check.equal("save", x.save(page, n - 1), n);
            }
        }
        for (int page = 0; page < Desk.PAGES; page++) {
            check.equal("the 25th by save", x.save(page, 4), -4);
            check.equal("the 25th by revert", x.revert(page, 1), -4);
            check.equal("the 25th by remove", x.remove(page), -4);
            check.equal("latest", x.latest(page), 4);
            check.equal("there", x.there(page), true);
        }
        check.equal("writes", x.writes(), 24 * 2);
    }

    private static void revertsAndRemovalsCount() {
        check.about("Terms: at most 24 are made in all, by save, revert and remove");
        SharedPages x = new SharedPages(5);
        Desk.saveAgain(x, Desk.A, 21);
        x.revert(Desk.A, 1);
        check.equal("the 23rd, gone", x.remove(Desk.A), 23);
        check.equal("the 24th", x.save(Desk.B, 0), 1);
        check.equal("the 25th", x.save(Desk.B, 1), -4);
        check.equal("the 25th, gone", x.remove(Desk.B), -4);
        check.equal("the 25th by revert", x.revert(Desk.A, 1), -4);
    }

    private static void twentyFourOfOnePage() {
        check.about("Terms: REVISIONS of a page are numbered 1, 2, ..; at most 24 are made in all");
        SharedPages x = new SharedPages(1);
        for (int n = 1; n <= 24; n++) {
            check.equal("revision of one page", x.save(Desk.F, n - 1), n);
        }
        check.equal("the 25th", x.save(Desk.F, 24), -4);
        check.equal("the 25th over 0", x.save(Desk.F, 0), -4);
        check.equal("over the 25th", x.save(Desk.F, 25), -1);
        check.equal("latest", x.latest(Desk.F), 24);
        check.equal("load of the 24th", x.load(Desk.F, 24), 0);
        check.equal("load of the 25th", x.load(Desk.F, 25), -1);
        check.equal("size of the 24th", x.size(Desk.F, 24), 0);
        check.equal("size of the 25th", x.size(Desk.F, 25), -1);
        check.equal("revert of the 25th", x.revert(Desk.F, 25), -1);
        SharedPages y = new SharedPages(5);
        Desk.saveAgain(y, Desk.F, 23);
        check.equal("the 24th, gone", y.remove(Desk.F), 24);
        check.equal("not there", y.there(Desk.F), false);
        check.equal("the 25th over one gone", y.save(Desk.F, 24), -4);
        check.equal("remove of what is not there", y.remove(Desk.F), -1);
    }

    private static void refusedAndCutOffOnesAreNotMade() {
        check.about("8 save: -4 if 24 revisions were made (one that was refused or that recovering took back was not)");
        SharedPages x = new SharedPages(1);
        Desk.saveAgain(x, Desk.A, 23);
        check.equal("a refused one", x.save(Desk.A, 24), -1);
        x.cut(0);
        check.equal("one cut off", x.save(Desk.B, 0), -5);
        x.recover(1);
        check.equal("taken back", x.latest(Desk.B), 0);
        x.cut(1);
        check.equal("one cut off later", x.save(Desk.B, 0), -5);
        x.recover(1);
        check.equal("made", x.latest(Desk.B), 1);
        check.equal("no 25th", x.save(Desk.B, 1), -4);
        check.equal("no 25th elsewhere", x.save(Desk.C, 0), -4);
    }

    private static void refusalsComeInOrder() {
        check.about("8 save: -1; else -4; else -2; else -3; -5");
        SharedPages x = Scenes.full();
        check.equal("no page and 24 made", x.save(6, 0), -1);
        check.equal("no base and 24 made", x.save(Desk.A, 3), -1);
        check.equal("24 made and a conflict", x.save(Desk.A, 1), -4);
        Desk.write(x, "x".repeat(38) + "\na");
        check.equal("24 made and too much", x.save(Desk.A, 1), -4);
        check.equal("24 made and a cut set", x.save(Desk.A, 2), -4);
        SharedPages y = Scenes.busy();
        y.cut(0);
        Desk.write(y, "x".repeat(37) + "\nz");
        check.equal("a conflict and a cut set", y.save(Desk.A, 1), -2);
        Desk.write(y, "x".repeat(31) + "\na\n[[C]]");
        check.equal("too much and a cut set", y.save(Desk.A, 2), -3);
        check.equal("a cut set", y.save(Desk.A, 3), -5);
        check.equal("down and a conflict", y.save(Desk.A, 1), -1);
    }

    private static void revertMakesRevisions() {
        check.about("9 revert: Makes a revision of the page with the text of one of its revisions (not 0)");
        SharedPages x = new SharedPages(5);
        Desk.save(x, Desk.A, "one");
        Desk.save(x, Desk.A, "two");
        Desk.save(x, Desk.B, "other");
        Desk.write(x, "draft");
        check.equal("revert to the first", x.revert(Desk.A, 1), 3);
        check.equal("its text", Desk.text(x, Desk.A, 3), "one");
        check.equal("revert to the latest", x.revert(Desk.A, 3), 4);
        check.equal("its text", Desk.text(x, Desk.A, 4), "one");
        x.remove(Desk.A);
        check.equal("revert behind one gone", x.revert(Desk.A, 2), 6);
        check.equal("there again", x.there(Desk.A), true);
        Desk.save(x, Desk.A, "two!");
        check.equal("its text", Desk.text(x, Desk.A, 6), "two");
        check.equal("another page", x.latest(Desk.B), 1);
        Desk.save(x, Desk.C, "");
        check.equal("revert to an empty text", x.revert(Desk.C, 1), 2);
        x.cut(0);
        check.equal("revert cut off", x.revert(Desk.A, 1), -5);
    }

    private static void revertNeedsARevision() {
        check.about("9 revert: -1 (refused) if there is no such page or revision (not 0)");
        SharedPages x = new SharedPages(3);
        Desk.save(x, Desk.A, "one");
        Desk.save(x, Desk.A, "two");
        Desk.save(x, Desk.B, "one");
        for (int revision : NO_REVISIONS) {
            check.equal("revert(A, " + revision + ")", x.revert(Desk.A, revision), -1);
        }
        check.equal("revert(A, 0)", x.revert(Desk.A, 0), -1);
        check.equal("revert(A, 3)", x.revert(Desk.A, 3), -1);
        check.equal("revert(B, 2)", x.revert(Desk.B, 2), -1);
        check.equal("revert(C, 0)", x.revert(Desk.C, 0), -1);
        check.equal("revert(C, 1)", x.revert(Desk.C, 1), -1);
        check.equal("latest", x.latest(Desk.A), 2);
        SharedPages y = withSixPages();
        for (int page : Desk.NO_PAGES) {
            check.equal("revert(" + page + ", 1)", y.revert(page, 1), -1);
        }
    }

    private static void revertOfOneGone() {
        check.about("9 revert: -1 (refused) also if that one is gone");
        SharedPages x = new SharedPages(3);
        Desk.save(x, Desk.A, "one");
        x.remove(Desk.A);
        check.equal("the latest, gone", x.revert(Desk.A, 2), -1);
        Desk.save(x, Desk.A, "three");
        check.equal("an older one, gone", x.revert(Desk.A, 2), -1);
        check.equal("latest", x.latest(Desk.A), 3);
    }

    private static void removeMakesOneGone() {
        check.about("10 remove: Makes a revision of the page that is gone");
        SharedPages x = new SharedPages(3);
        Desk.save(x, Desk.A, "one");
        Desk.save(x, Desk.B, "one");
        check.equal("remove", x.remove(Desk.A), 2);
        check.equal("gone", x.there(Desk.A), false);
        check.equal("another one", x.there(Desk.B), true);
        check.equal("latest", x.latest(Desk.A), 2);
        check.equal("the older one's text", Desk.text(x, Desk.A, 1), "one");
        x.cut(0);
        check.equal("remove cut off", x.remove(Desk.B), -5);
    }

    private static void removeNeedsAPageThatIsThere() {
        check.about("10 remove: -1 (refused) also if the page is not there");
        SharedPages x = new SharedPages(3);
        check.equal("without revisions", x.remove(Desk.A), -1);
        Desk.save(x, Desk.A, "");
        check.equal("with an empty text", x.remove(Desk.A), 2);
        check.equal("gone already", x.remove(Desk.A), -1);
        Desk.save(x, Desk.A, "back");
        check.equal("there again", x.remove(Desk.A), 4);
        SharedPages y = withSixPages();
        for (int page : Desk.NO_PAGES) {
            check.equal("remove(" + page + ")", y.remove(page), -1);
        }
    }

    private static void loadFillsTheDraft() {
        check.about("11 load: The draft becomes the text of a revision of the page (not 0). Answers its steps");
        SharedPages x = new SharedPages(5);
        Desk.save(x, Desk.A, Scenes.FORTY);
        Desk.save(x, Desk.A, "b");
        Desk.save(x, Desk.A, "");
        check.equal("load 1", x.load(Desk.A, 1), 0);
        check.equal("forty characters", Desk.draft(x), Scenes.FORTY);
        check.equal("no room behind them", x.type('x'), false);
        check.equal("load 2", x.load(Desk.A, 2), 1);
        check.equal("a shorter text", Desk.draft(x), "b");
        x.type('\n');
        x.put(1, 'c');
        check.equal("the draft goes on from it", Desk.draft(x), "b\nc");
        check.equal("the revision does not", Desk.text(x, Desk.A, 2), "b");
        check.equal("load 3", x.load(Desk.A, 3), 2);
        check.equal("an empty text", x.length(), 0);
    }

    private static void loadOfOneGone() {
        check.about("11 load: (Of one that is gone: empty.)");
        SharedPages x = new SharedPages(5);
        Desk.save(x, Desk.A, "a");
        x.remove(Desk.A);
        Desk.save(x, Desk.A, "c\nd");
        check.equal("load of one gone", x.load(Desk.A, 2), 0);
        check.equal("length", x.length(), 0);
        check.equal("one line", x.put(1, 'x'), false);
        check.equal("the draft goes on from it", x.type('x'), true);
        check.equal("load of it again", x.load(Desk.A, 2), 0);
        check.equal("length again", x.length(), 0);
    }

    private static void loadNeedsARevision() {
        check.about("11 load: -1 (refused) if there is no such page or revision (not 0)");
        SharedPages x = new SharedPages(5);
        Desk.save(x, Desk.A, "a");
        Desk.save(x, Desk.A, "b");
        Desk.save(x, Desk.B, "c");
        Desk.write(x, "draft");
        for (int revision : NO_REVISIONS) {
            check.equal("load(A, " + revision + ")", x.load(Desk.A, revision), -1);
        }
        check.equal("load(A, 0)", x.load(Desk.A, 0), -1);
        check.equal("load(A, 3)", x.load(Desk.A, 3), -1);
        check.equal("load(B, 2)", x.load(Desk.B, 2), -1);
        check.equal("load(C, 0)", x.load(Desk.C, 0), -1);
        check.equal("load(C, 1)", x.load(Desk.C, 1), -1);
        check.equal("draft", Desk.draft(x), "draft");
        SharedPages y = withSixPages();
        for (int page : Desk.NO_PAGES) {
            check.equal("load(" + page + ", 1)", y.load(page, 1), -1);
        }
    }

    private static void latestCounts() {
        check.about("12 latest: The number of the page's latest revision, 0 without one; -1 if there is no such page");
        SharedPages x = new SharedPages(5);
        check.equal("without one", x.latest(Desk.A), 0);
        x.save(Desk.A, 0);
        check.equal("with one", x.latest(Desk.A), 1);
        x.remove(Desk.A);
        check.equal("with one gone", x.latest(Desk.A), 2);
        x.revert(Desk.A, 1);
        check.equal("with a revert", x.latest(Desk.A), 3);
        check.equal("of another page", x.latest(Desk.B), 0);
        SharedPages y = withSixPages();
        for (int page : Desk.NO_PAGES) {
            check.equal("latest(" + page + ")", y.latest(page), -1);
        }
    }

    private static void thereTellsTheLatest() {
        check.about("13 there; terms: A page IS THERE when its latest revision is not gone");
        SharedPages x = new SharedPages(5);
        check.equal("without revisions", x.there(Desk.E), false);
        Desk.save(x, Desk.E, "");
        check.equal("with an empty text", x.there(Desk.E), true);
        x.remove(Desk.E);
        check.equal("with one gone", x.there(Desk.E), false);
        Desk.save(x, Desk.E, "e");
        check.equal("with one gone before", x.there(Desk.E), true);
        SharedPages y = withSixPages();
        for (int page : Desk.NO_PAGES) {
            check.equal("there(" + page + ")", y.there(page), false);
        }
    }

    private static void sizeNeedsARevision() {
        check.about("14 size: The size of a revision of the page; -1 if there is none");
        SharedPages x = new SharedPages(5);
        Desk.save(x, Desk.A, "abc");
        Desk.save(x, Desk.A, "abc");
        Desk.save(x, Desk.B, "c");
        check.equal("size 1", x.size(Desk.A, 1), 3);
        check.equal("size 2", x.size(Desk.A, 2), 0);
        check.equal("size 3", x.size(Desk.A, 3), -1);
        check.equal("size 0", x.size(Desk.A, 0), -1);
        check.equal("size 2 of B", x.size(Desk.B, 2), -1);
        check.equal("size 0 of C", x.size(Desk.C, 0), -1);
        check.equal("size 1 of C", x.size(Desk.C, 1), -1);
        for (int revision : NO_REVISIONS) {
            check.equal("size(A, " + revision + ")", x.size(Desk.A, revision), -1);
        }
        SharedPages y = withSixPages();
        for (int page : Desk.NO_PAGES) {
            check.equal("size(" + page + ", 1)", y.size(page, 1), -1);
        }
    }
}
