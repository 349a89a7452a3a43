/** Promises 15 and 16 and the term links. */
final class LinkTest {
    private static final Check check = new Check();

    public static void main(String[] args) {
        linksAreASum();
        lettersOfPagesAlone();
        linksAreWhole();
        linksFromLeftToRight();
        linksInHeadingsAndItems();
        includesAreLinks();
        noLinksInAnInclude();
        theEndOfAText();
        theLatestTextCounts();
        aPageThatIsNotThereHasNone();
        backlinksGatherLinks();
        backlinksOfAPageThatIsNotThere();
        noSuchPage();
        check.end();
    }

    private static void links(String text, int due) {
        SharedPages x = new SharedPages(2);
        Desk.save(x, Desk.A, text);
        check.equal("links of \"" + text + "\"", x.links(Desk.A), due);
    }

    private static void linksAreASum() {
        check.about("15 links: the sum of 1, 2, 4, .. 32 for A to F");
        links("", 0);
        links("nothing", 0);
        for (int page = 0; page < Desk.PAGES; page++) {
            links("[[" + (char) ('A' + page) + "]]", 1 << page);
            links("{{" + (char) ('A' + page) + "}}", 1 << page);
        }
        links("[[B]] [[F]]", 2 + 32);
        links("[[A]][[B]][[C]]\n[[D]][[E]][[F]]", 63);
        links("[[E]][[E]]\n{{E}}", 16);
    }

    private static void lettersOfPagesAlone() {
        check.about("LINKS: the pages X (A to F)");
        links("[[G]] [[Z]]", 0);
        links("{{Z}}\n{{G}}\n{{Gx}}", 0);
        links("[[a]] [[@]] [[[]] [[1]] [[`]] [[f]]", 0);
        links("{{a}}\n{{@}}\n{{[}}\n{{1}}\n{{ }}", 0);
    }

    private static void linksAreWhole() {
        check.about("LINKS: [[X]]");
        links("[A]] [[B] [[C ]] [[ D]]", 0);
        links("[[D\n]]\n{{C\n}}", 0);
        links("[[]] [[AB]]", 0);
        links("[[$]]\n{{$}}", 0);
    }

    private static void linksFromLeftToRight() {
        check.about("LINKS: looked for from left to right like in content");
        links("[[[C]]]", 4);
        links("[[[[C]]", 4);
        links("[[[[[[D]]", 8);
        links("[[A[[B]]", 2);
        links("**[[D]]**", 8);
        links("[[*[[B]]", 2);
    }

    private static void linksInHeadingsAndItems() {
        check.about("LINKS: in a line that is no include");
        links("==[[B]]\n* [[C]]\n====[[D]]", 2 + 4 + 8);
        links("\n\n[[B]]", 2);
    }

    private static void includesAreLinks() {
        check.about("LINKS: the pages X of which its text has an include");
        links("{{Bx}}", 2);
        links("{{B}}}", 2);
        links("{{B$}}\n{{C }}\n{{D~}}", 2 + 4 + 8);
        links("{{B}} ", 0);
        links(" {{B}}", 0);
        links("{{Bxy}}", 0);
        links("{B}}\n{{B}\n{{}}\n{{}}}}", 0);
        links("{{", 0);
        links("{{B", 0);
    }

    private static void noLinksInAnInclude() {
        check.about("LINKS: an include, or, in a line that is no include, [[X]]");
        links("x{{B}}[[C]]", 4);
        links("{{B}}[[C]]", 4);
        links("[[C]]{{B}}", 4);
        links("{{B}}\n[[C]]", 2 + 4);
    }

    private static void theEndOfAText() {
        check.about("LINKS at the end of a text of forty characters");
        links("x".repeat(35) + "[[B]]", 2);
        links("x".repeat(36) + "[[B]", 0);
        links("x".repeat(37) + "[[B", 0);
        links("x".repeat(38) + "[[", 0);
        links("x".repeat(34) + "\n{{B}}", 2);
        links("x".repeat(33) + "\n{{Bc}}", 2);
        links("x".repeat(35) + "\n{{B}", 0);
        links("\n".repeat(35) + "[[B]]", 2);
    }

    private static void theLatestTextCounts() {
        check.about("Terms: A page IS THERE when its latest revision is not gone; that one's text is the page's");
        SharedPages x = new SharedPages(2);
        Desk.save(x, Desk.A, "[[B]]");
        Desk.save(x, Desk.A, "[[C]]");
        Desk.write(x, "[[D]]");
        check.equal("links of the latest", x.links(Desk.A), 4);
        check.equal("backlinks of the older one's", x.backlinks(Desk.B), 0);
        check.equal("backlinks of the draft's", x.backlinks(Desk.D), 0);
    }

    private static void aPageThatIsNotThereHasNone() {
        check.about("LINKS: (A page that is not there has none.)");
        SharedPages x = new SharedPages(2);
        check.equal("links without revisions", x.links(Desk.F), 0);
        Desk.save(x, Desk.A, "[[B]]");
        x.remove(Desk.A);
        check.equal("links when gone", x.links(Desk.A), 0);
        check.equal("backlinks from one gone", x.backlinks(Desk.B), 0);
        x.revert(Desk.A, 1);
        check.equal("links when back", x.links(Desk.A), 2);
        check.equal("backlinks when back", x.backlinks(Desk.B), 1);
    }

    private static void backlinksGatherLinks() {
        check.about("16 backlinks: The pages of whose links it is one, as such a sum");
        SharedPages x = new SharedPages(2);
        check.equal("no backlinks", x.backlinks(Desk.A), 0);
        Desk.save(x, Desk.A, "[[A]] [[F]]");
        Desk.save(x, Desk.C, "{{A}}\n{{Fx}}");
        Desk.save(x, Desk.F, "[[A]]");
        check.equal("backlinks of A", x.backlinks(Desk.A), 1 + 4 + 32);
        check.equal("backlinks of F", x.backlinks(Desk.F), 1 + 4);
        check.equal("backlinks of B", x.backlinks(Desk.B), 0);
        SharedPages y = new SharedPages(2);
        for (int page = 0; page < Desk.PAGES; page++) {
            Desk.save(y, page, "[[F]]");
        }
        check.equal("backlinks from all", y.backlinks(Desk.F), 63);
        check.equal("backlinks from none", y.backlinks(Desk.E), 0);
    }

    private static void backlinksOfAPageThatIsNotThere() {
        check.about("16 backlinks: of a page that is not there");
        SharedPages x = new SharedPages(2);
        Desk.save(x, Desk.A, "[[B]][[F]]");
        check.equal("without revisions", x.backlinks(Desk.F), 1);
        Desk.save(x, Desk.B, "[[B]]");
        check.equal("there", x.backlinks(Desk.B), 1 + 2);
        x.remove(Desk.B);
        check.equal("gone", x.backlinks(Desk.B), 1);
    }

    private static void noSuchPage() {
        check.about("15 links, 16 backlinks: -1 if there is no such page");
        SharedPages x = new SharedPages(2);
        Desk.save(x, Desk.A, "[[A]][[F]]");
        Desk.save(x, Desk.F, "[[A]][[F]]");
        for (int page : Desk.NO_PAGES) {
            check.equal("links(" + page + ")", x.links(page), -1);
            check.equal("backlinks(" + page + ")", x.backlinks(page), -1);
        }
    }
}
