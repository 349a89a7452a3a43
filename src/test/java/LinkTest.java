/** Promises 15 and 16: links and backlinks. */
final class LinkTest {
    private static final Check check = new Check();

    public static void main(String[] args) {
        linksOfTexts();
        linksOfPagesNotThere();
        backlinksGatherLinks();
        refusals();
        check.end();
    }

    private static void linksOfTexts() {
        links("", 0);
        links("nothing", 0);
        links("[[A]]", 1);
        links("[[B]] [[F]]", 2 + 32);
        links("[[A]][[B]][[C]]\n[[D]][[E]][[F]]", 63);
        links("[[G]] [[Z]]", 0);
        links("[[a]] [[@]] [[1]]", 0);
        links("[A]] [[B] [[C ]] [[ D]]", 0);
        links("[[[C]]]", 4);
        links("[[[[C]]", 4);
        links("[[[[[[D]]", 8);
        links("[[A[[B]]", 2);
        links("[[C", 0);
        links("[[C]", 0);
        links("==[[B]]\n* [[C]]\n**[[D]]**", 2 + 4 + 8);
        links("{{B}}", 2);
        links("{{Bx}}", 2);
        links("{{B}}}", 2);
        links("{{B$}}\n{{C }}", 2 + 4);
        links("{{Z}}\n{{G}}", 0);
        links("{{B}} ", 0);
        links(" {{B}}", 0);
        links("{{Bxy}}", 0);
        links("{{b}}", 0);
        links("{B}}\n{{B}\n{{}}\n{{}}}}", 0);
        links("x{{B}}[[C]]", 4);
        links("{{$}}\n[[$]]", 0);
        links("{{E}}\n{{E}}\n[[E]]", 16);
        links("[[D\n]]\n{{C\n}}", 0);
    }

    private static void links(String text, int due) {
        SharedPages x = new SharedPages(2);
        Desk.save(x, Desk.A, text);
        check.equal("links of \"" + text + "\"", x.links(Desk.A), due);
    }

    private static void linksOfPagesNotThere() {
        SharedPages x = new SharedPages(2);
        check.equal("links without revisions", x.links(Desk.F), 0);
        Desk.save(x, Desk.A, "[[B]]");
        Desk.save(x, Desk.A, "[[C]]");
        check.equal("links of the latest revision", x.links(Desk.A), 4);
        x.remove(Desk.A);
        check.equal("links when gone", x.links(Desk.A), 0);
        check.equal("backlinks from one gone", x.backlinks(Desk.C), 0);
        x.revert(Desk.A, 1);
        check.equal("links when back", x.links(Desk.A), 2);
    }

    private static void backlinksGatherLinks() {
        SharedPages x = new SharedPages(2);
        check.equal("no backlinks", x.backlinks(Desk.A), 0);
        Desk.save(x, Desk.A, "[[A]] [[F]]");
        Desk.save(x, Desk.C, "{{A}}\n{{Fx}}");
        Desk.save(x, Desk.F, "[[A]]");
        check.equal("backlinks of A", x.backlinks(Desk.A), 1 + 4 + 32);
        check.equal("backlinks of F", x.backlinks(Desk.F), 1 + 4);
        check.equal("backlinks of B", x.backlinks(Desk.B), 0);
        x.remove(Desk.F);
        check.equal("backlinks of a page that is gone", x.backlinks(Desk.F), 1 + 4);
        check.equal("backlinks of A without F", x.backlinks(Desk.A), 1 + 4);
    }

    private static void refusals() {
        SharedPages x = new SharedPages(2);
        Desk.save(x, Desk.A, "[[A]]");
        for (int page : new int[] {-1, 6, Integer.MIN_VALUE, Integer.MAX_VALUE}) {
            check.equal("links(" + page + ")", x.links(page), -1);
            check.equal("backlinks(" + page + ")", x.backlinks(page), -1);
        }
        x.cut(0);
        x.save(Desk.A, 1);
        check.equal("links while down", x.links(Desk.A), -1);
        check.equal("backlinks while down", x.backlinks(Desk.A), -1);
        x.recover(1);
        check.equal("links after that", x.links(Desk.A), 1);
        check.equal("backlinks after that", x.backlinks(Desk.A), 1);
    }
}
