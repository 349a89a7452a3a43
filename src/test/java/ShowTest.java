/** Promises 17 and 18 and the terms expansion, shown and content. */
final class ShowTest {
    private static final Check check = new Check();

    public static void main(String[] args) {
        headings();
        headingsOfHighLevel();
        items();
        plainLines();
        emptyLines();
        blocksPartOneAnother();
        bold();
        links();
        linksTellWhatIsThere();
        escapes();
        theEndOfAText();
        includesAreWholeLines();
        lettersOfIncludes();
        includesOfNoPageThere();
        includesOfThePageItself();
        includesOfAPageAround();
        includesInFourPages();
        marksComeInOrder();
        includesOfAnEmptyPage();
        includesFill();
        includesFillWithEveryCharacter();
        includesWithoutFilling();
        includesJoinBlocks();
        endsAfterTwoHundred();
        endsAtTheLimit();
        endsWithinMarks();
        includesBehindTwoHundred();
        showNeedsAPageThatIsThere();
        shownHasEnds();
        shownOfTwoHundred();
        shownStays();
        check.end();
    }

    private static void shows(String text, String due) {
        SharedPages x = new SharedPages(2);
        Desk.save(x, Desk.A, text);
        check.equal("show of \"" + text + "\"", x.show(Desk.A), due.length());
        check.equal("shown of \"" + text + "\"", Desk.screen(x), due);
    }

    /** Shows page A of the pages A, B, .. with these texts. */
    private static void showsFirst(String due, String... texts) {
        SharedPages x = new SharedPages(2);
        for (int page = 0; page < texts.length; page++) {
            Desk.save(x, page, texts[page]);
        }
        check.equal("shown of \"" + texts[0] + "\"", Desk.shown(x, Desk.A), due);
    }

    private static void headings() {
        check.about("SHOWN: a HEADING begins with =, its LEVEL is how many = stand at its beginning");
        shows("=a", "<h1>a</h1>");
        shows("==a", "<h2>a</h2>");
        shows("===a", "<h3>a</h3>");
        shows("=", "<h1></h1>");
        shows("==", "<h2></h2>");
        shows("= a", "<h1> a</h1>");
        shows("=a=", "<h1>a=</h1>");
        shows("= =a", "<h1> =a</h1>");
        shows(" =a", "<p> =a</p>");
        shows("a=", "<p>a=</p>");
        shows("=* a", "<h1>* a</h1>");
        shows("==[[A]] **b", "<h2><a>A</a> <b>b</b></h2>");
    }

    private static void headingsOfHighLevel() {
        check.about("SHOWN: its LEVEL is 3 if there are more; what stands behind these (at most three)");
        shows("===", "<h3></h3>");
        shows("====a", "<h3>=a</h3>");
        shows("=====", "<h3>==</h3>");
        shows("=".repeat(40), "<h3>" + "=".repeat(37) + "</h3>");
    }

    private static void items() {
        check.about("SHOWN: an ITEM begins with * and a blank; neighbouring items as <ul>, for each <li> content </li>, </ul>");
        shows("* a", "<ul><li>a</li></ul>");
        shows("* a\n* b", "<ul><li>a</li><li>b</li></ul>");
        shows("* ", "<ul><li></li></ul>");
        shows("*  ", "<ul><li> </li></ul>");
        shows("*", "<p>*</p>");
        shows("*a", "<p>*a</p>");
        shows(" * a", "<p> * a</p>");
        shows("* * a", "<ul><li>* a</li></ul>");
        shows("* =a", "<ul><li>=a</li></ul>");
        shows("* **a", "<ul><li><b>a</b></li></ul>");
        shows("** a", "<p><b> a</b></p>");
    }

    private static void plainLines() {
        check.about("SHOWN: neighbouring plain lines as <p>, their contents with a blank between, </p>");
        shows("a", "<p>a</p>");
        shows("a\nb", "<p>a b</p>");
        shows("a\nb\nc", "<p>a b c</p>");
        shows(" ", "<p> </p>");
        shows(" \n ", "<p>   </p>");
    }

    private static void emptyLines() {
        check.about("SHOWN: empty lines as nothing, but they part neighbours");
        shows("", "");
        shows("\n\n", "");
        shows("\n".repeat(40), "");
        shows("a\n\nb", "<p>a</p><p>b</p>");
        shows("* a\n\n* b", "<ul><li>a</li></ul><ul><li>b</li></ul>");
        shows("\na\n\n\nb\n", "<p>a</p><p>b</p>");
        shows("=a\n\n=b", "<h1>a</h1><h1>b</h1>");
    }

    private static void blocksPartOneAnother() {
        check.about("SHOWN: Shown are in order");
        shows("a\n* b\nc", "<p>a</p><ul><li>b</li></ul><p>c</p>");
        shows("a\n=b\nc", "<p>a</p><h1>b</h1><p>c</p>");
        shows("* a\n=b\n* c", "<ul><li>a</li></ul><h1>b</h1><ul><li>c</li></ul>");
        shows("=a\n=b", "<h1>a</h1><h1>b</h1>");
    }

    private static void bold() {
        check.about("CONTENT: ** is <b> if there is none open in this content, else </b>; behind the last one </b>, if one is open");
        shows("**a**", "<p><b>a</b></p>");
        shows("**a", "<p><b>a</b></p>");
        shows("a**", "<p>a<b></b></p>");
        shows("**", "<p><b></b></p>");
        shows("***", "<p><b>*</b></p>");
        shows("****", "<p><b></b></p>");
        shows("*****", "<p><b></b>*</p>");
        shows("**a**b**c", "<p><b>a</b>b<b>c</b></p>");
        shows("**a\nb**c", "<p><b>a</b> b<b>c</b></p>");
        shows("* **a\n* b", "<ul><li><b>a</b></li><li>b</li></ul>");
        shows("=**a\n**b", "<h1><b>a</b></h1><p><b>b</b></p>");
        shows("a * b", "<p>a * b</p>");
    }

    private static void links() {
        check.about("CONTENT: [[X]] with a letter X from A to Z");
        shows("[[A]]", "<p><a>A</a></p>");
        shows("[[Z]]", "<p><u>Z</u></p>");
        shows("[[@]]", "<p>[[@]]</p>");
        shows("[[[]]", "<p>[[[]]</p>");
        shows("[[a]]", "<p>[[a]]</p>");
        shows("[[[A]]]", "<p>[<a>A</a>]</p>");
        shows("[[A]", "<p>[[A]</p>");
        shows("[[A", "<p>[[A</p>");
        shows("[[", "<p>[[</p>");
        shows("[A]]", "<p>[A]]</p>");
        shows("[[AB]]", "<p>[[AB]]</p>");
        shows("[[A]][[B]]", "<p><a>A</a><u>B</u></p>");
        shows("**[[A]]**", "<p><b><a>A</a></b></p>");
        shows("[[**]]", "<p>[[<b>]]</b></p>");
        shows("[[&]]", "<p>[[&amp;]]</p>");
    }

    private static void linksTellWhatIsThere() {
        check.about("CONTENT: <a>X</a> if X is a page that is there, else <u>X</u>");
        SharedPages x = new SharedPages(2);
        Desk.save(x, Desk.A, "[[B]][[F]][[E]][[G]]");
        Desk.save(x, Desk.B, "b");
        Desk.save(x, Desk.F, "");
        check.equal("there", Desk.shown(x, Desk.A), "<p><a>B</a><a>F</a><u>E</u><u>G</u></p>");
        x.remove(Desk.B);
        check.equal("gone", Desk.shown(x, Desk.A), "<p><u>B</u><a>F</a><u>E</u><u>G</u></p>");
        x.revert(Desk.B, 1);
        check.equal("there again", Desk.shown(x, Desk.A), "<p><a>B</a><a>F</a><u>E</u><u>G</u></p>");
    }

    private static void escapes() {
        check.about("CONTENT: & is &amp; < is &lt; > is &gt; any other character is itself");
        shows("&<>", "<p>&amp;&lt;&gt;</p>");
        shows("&amp;", "<p>&amp;amp;</p>");
        shows("=<", "<h1>&lt;</h1>");
        shows("* >", "<ul><li>&gt;</li></ul>");
        for (int code = 32; code <= 126; code++) {
            if (code != '&' && code != '<' && code != '>' && code != '=') {
                shows("" + (char) code, "<p>" + (char) code + "</p>");
            }
        }
    }

    private static void theEndOfAText() {
        check.about("CONTENT at the end of a text of forty characters");
        String front = "x".repeat(35);
        shows(front + "[[A]]", "<p>" + front + "<a>A</a></p>");
        shows(front + "x[[A]", "<p>" + front + "x[[A]</p>");
        shows(front + "xx[[A", "<p>" + front + "xx[[A</p>");
        shows(front + "xxx[[", "<p>" + front + "xxx[[</p>");
        shows(front + "xxx**", "<p>" + front + "xxx<b></b></p>");
        shows(front + "xxxx*", "<p>" + front + "xxxx*</p>");
        shows(front + "xxx\n=", "<p>" + front + "xxx</p><h1></h1>");
        shows(front + "xx\n* ", "<p>" + front + "xx</p><ul><li></li></ul>");
        shows(front.substring(1) + "\n{{A}}", "<p>" + front.substring(1) + " !A</p>");
        shows(front.substring(2) + "\n{{Bc}}", "<p>" + front.substring(2) + " ?B</p>");
        shows(front + "\n{{A}", "<p>" + front + " {{A}</p>");
    }

    private static void includesAreWholeLines() {
        check.about("EXPANSION: a line that is {{X}} or {{Xc}}");
        shows("{{Bxy}}", "<p>{{Bxy}}</p>");
        shows("{{B}} ", "<p>{{B}} </p>");
        shows(" {{B}}", "<p> {{B}}</p>");
        shows("{{B}", "<p>{{B}</p>");
        shows("{B}}", "<p>{B}}</p>");
        shows("{{B", "<p>{{B</p>");
        shows("{{", "<p>{{</p>");
        shows("{{}}", "<p>{{}}</p>");
        shows("{{}}}}", "<p>{{}}}}</p>");
        shows("* {{B}}", "<ul><li>{{B}}</li></ul>");
        shows("={{B}}", "<h1>{{B}}</h1>");
        showsFirst("<p>a</p><h1>b</h1><p>c</p>", "a\n{{B}}\nc", "=b");
    }

    private static void lettersOfIncludes() {
        check.about("EXPANSION: with a letter X from A to Z");
        shows("{{Z}}", "<p>?Z</p>");
        shows("{{G}}", "<p>?G</p>");
        shows("{{A}}", "<p>!A</p>");
        shows("{{@}}", "<p>{{@}}</p>");
        shows("{{[}}", "<p>{{[}}</p>");
        shows("{{z}}", "<p>{{z}}</p>");
        shows("{{a}}", "<p>{{a}}</p>");
        shows("{{ }}", "<p>{{ }}</p>");
        shows("{{@c}}", "<p>{{@c}}</p>");
        shows("{{[c}}", "<p>{{[c}}</p>");
    }

    private static void includesOfNoPageThere() {
        check.about("EXPANSION: ?X, if X is no page that is there");
        shows("{{B}}", "<p>?B</p>");
        shows("{{F}}", "<p>?F</p>");
        shows("{{B>}}", "<p>?B</p>");
        shows("{{Z}}}", "<p>?Z</p>");
        SharedPages x = new SharedPages(2);
        Desk.save(x, Desk.A, "a\n{{B}}\nc");
        Desk.save(x, Desk.B, "b");
        check.equal("there", Desk.shown(x, Desk.A), "<p>a b c</p>");
        x.remove(Desk.B);
        check.equal("gone", Desk.shown(x, Desk.A), "<p>a ?B c</p>");
        x.revert(Desk.B, 1);
        check.equal("there again", Desk.shown(x, Desk.A), "<p>a b c</p>");
    }

    private static void includesOfThePageItself() {
        check.about("EXPANSION: else !X, if X is the page itself");
        shows("{{A}}", "<p>!A</p>");
        shows("{{Ax}}", "<p>!A</p>");
        shows("a\n{{A}}\n{{A}}", "<p>a !A !A</p>");
    }

    private static void includesOfAPageAround() {
        check.about("EXPANSION: !X, if X is one in whose expansion the line stands");
        showsFirst("<p>!A</p>", "{{B}}", "{{A}}");
        showsFirst("<p>!A !B !C</p>", "{{B}}", "{{C}}", "{{A}}\n{{B}}\n{{C}}");
        // Beside one another a page may be included again.
        showsFirst("<p>b b</p>", "{{B}}\n{{B}}", "b");
        showsFirst("<p>c c</p>", "{{B}}\n{{C}}", "{{C}}", "c");
    }

    private static void includesInFourPages() {
        check.about("EXPANSION: else ^X, if it stands in the expansion of four pages; else the expansion of X");
        showsFirst("<p>a b c d</p>", "a\n{{B}}", "b\n{{C}}", "c\n{{D}}", "d");
        showsFirst("<p>a b c d ^E</p>", "a\n{{B}}", "b\n{{C}}", "c\n{{D}}", "d\n{{E}}", "e");
        showsFirst("<p>a b c d ^F ^E</p>", "a\n{{B}}", "b\n{{C}}", "c\n{{D}}", "d\n{{Fx}}\n{{E}}", "e", "f");
        showsFirst("<p>a c d e f ^B</p>", "a\n{{C}}", "b", "c\n{{D}}", "d\n{{E}}", "e\nf\n{{B}}");
        // Behind the fourth one, an include in a page further out is expanded again.
        showsFirst("<p>a b c d ^E e e</p>", "a\n{{B}}\n{{E}}", "b\n{{C}}", "c\n{{D}}\n{{E}}", "d\n{{E}}", "e");
    }

    private static void marksComeInOrder() {
        check.about("EXPANSION: ?X; else !X; else ^X");
        showsFirst("<p>!A !B !C !D ^E</p>", "{{B}}", "{{C}}", "{{D}}", "{{A}}\n{{B}}\n{{C}}\n{{D}}\n{{E}}", "e");
        showsFirst("<p>?F ?Z ^E</p>", "{{B}}", "{{C}}", "{{D}}", "{{F}}\n{{Z}}\n{{E}}", "e");
    }

    private static void includesOfAnEmptyPage() {
        check.about("EXPANSION: the expansion of X, if X's text is empty (one empty line)");
        showsFirst("<p>a</p><p>c</p>", "a\n{{B}}\nc", "");
        showsFirst("", "{{B}}", "");
    }

    private static void includesFill() {
        check.about("EXPANSION: in whose text (before it is looked at for includes) each $ is c");
        showsFirst("<p>x-x</p>", "{{Bx}}", "$-$");
        showsFirst("<h1>-=</h1>", "{{B=}}", "$-$");
        showsFirst("<p>&lt;-&lt;</p>", "{{B<}}", "$-$");
        showsFirst("<ul><li>a</li></ul>", "{{B*}}", "$ a");
        showsFirst("<ul><li>a</li></ul>", "{{B }}", "*$a");
        showsFirst("<p><b>b</b></p>", "{{B*}}", "$$b");
        showsFirst("<p><a>A</a></p>", "{{BA}}", "[[$]]");
        showsFirst("<p>c</p>", "{{BC}}", "{{$}}", "c");
        showsFirst("<p>c</p>", "{{B{}}", "$$C}}", "c");
        showsFirst("<p>(x)</p>", "{{Bx}}", "{{C$}}", "($)");
        showsFirst("<p>xxxxxxxxxxxxxxxxxxxxxxxxxxxxxxxxxxxxxxxx</p>", "{{Bx}}", "$".repeat(40));
    }

    private static void includesFillWithEveryCharacter() {
        check.about("EXPANSION: {{Xc}}, with a character c");
        for (int code = 32; code <= 126; code++) {
            char c = (char) code;
            String due = c == '&' ? "&amp;" : c == '<' ? "&lt;" : c == '>' ? "&gt;" : "" + c;
            showsFirst("<p>(" + due + ")</p>", "{{B" + c + "}}", "($)");
        }
    }

    private static void includesWithoutFilling() {
        check.about("EXPANSION: ({{X}} leaves $ as it is.)");
        showsFirst("<p>$-$</p>", "{{B}}", "$-$");
        showsFirst("<p>$-$</p>", "{{B$}}", "$-$");
        showsFirst("<p>{{$}} $</p>", "{{B}}\n$", "{{$}}");
        showsFirst("<p>($)</p>", "{{Bx}}", "{{C}}", "($)");
        showsFirst("<p>x ($) x</p>", "{{Bx}}", "$\n{{C}}\n$", "($)");
        shows("$ [[$]]", "<p>$ [[$]]</p>");
    }

    private static void includesJoinBlocks() {
        check.about("SHOWN is the expansion's list of lines: neighbours over an include");
        showsFirst("<ul><li>a</li><li>b</li><li>c</li><li>d</li></ul>", "* a\n{{B}}\n* d", "* b\n* c");
        showsFirst("<p>a <b>b</b> d</p>", "a\n{{B}}\nd", "**b");
        showsFirst("<p>?F !A</p>", "{{F}}\n{{A}}");
    }

    /** What fits: 3 + 5 * ampersands + 1 * others + 4 characters. */
    private static void ends(int ampersands, String others, int due) {
        SharedPages x = new SharedPages(2);
        Desk.save(x, Desk.A, "&".repeat(ampersands) + others);
        String all = "<p>" + "&amp;".repeat(ampersands) + others.replace("<", "&lt;") + "</p>";
        check.equal("show", x.show(Desk.A), due);
        check.equal("shown", Desk.screen(x), all.substring(0, due));
    }

    private static void endsAfterTwoHundred() {
        check.about("17 show: 200 at most; SHOWN: What is shown ends after 200 characters");
        ends(38, "", 197);
        ends(38, "ab", 199);
        ends(37, "<<", 200);
        ends(37, "<<a", 200);
        ends(40, "", 200);
    }

    private static void endsAtTheLimit() {
        check.about("17 show: How many characters are shown of the page, 200 at most");
        String items = "<ul>" + "<li>x</li>".repeat(20) + "</ul>";
        SharedPages x = new SharedPages(2);
        Desk.save(x, Desk.A, "{{B}}\n{{B}}\n{{B}}\n{{B}}\n{{B}}");
        Desk.save(x, Desk.B, "* x\n* x\n* x\n* x");
        check.equal("items", Desk.shown(x, Desk.A), items.substring(0, 200));
        Desk.save(x, Desk.A, "{{B}}\n{{B}}\n{{B}}\n{{B}}");
        check.equal("fewer items", x.show(Desk.A), 4 + 160 + 5);
    }

    private static void endsWithinMarks() {
        check.about("SHOWN: What is shown ends after 200 characters, within a mark too");
        String front = "<p>" + "&amp;".repeat(38) + " ";
        String two = "&".repeat(38);
        showsFirst((front + "<a>A</a></p>").substring(0, 200), "{{B}}\n[[A]]", two);
        showsFirst((front + "<b>x</b></p>").substring(0, 200), "{{B}}\n**x", two);
        showsFirst((front + "xx</p>").substring(0, 200), "{{B}}\nxx", two);
        showsFirst((front.substring(0, 193) + "</p><h2>x</h2>").substring(0, 200), "{{B}}\n==x", two);
        showsFirst((front.substring(0, 193) + "</p><ul><li>x</li></ul>").substring(0, 200), "{{B}}\n* x", two);
    }

    private static void includesBehindTwoHundred() {
        check.about("SHOWN: What is shown ends after 200 characters, however many lines are included");
        String six = "{{B}}\n{{B}}\n{{B}}\n{{B}}\n{{B}}\n{{B}}";
        SharedPages x = new SharedPages(2);
        Desk.save(x, Desk.A, six);
        Desk.save(x, Desk.B, six.replace('B', 'C'));
        Desk.save(x, Desk.C, six.replace('B', 'D'));
        Desk.save(x, Desk.D, "\n".repeat(40));
        check.equal("many empty lines", x.show(Desk.A), 0);
        Desk.save(x, Desk.D, "x");
        check.equal("many plain lines", x.show(Desk.A), 200);
        check.equal("the last of them", x.shown(199), ("<p>" + "x ".repeat(99)).charAt(199));
        check.equal("behind that", x.shown(200), -1);
        Desk.save(x, Desk.D, "");
        check.equal("many empty pages", x.show(Desk.A), 0);
    }

    private static void showNeedsAPageThatIsThere() {
        check.about("17 show: -1 if it is not there");
        SharedPages x = new SharedPages(2);
        Desk.save(x, Desk.A, "a");
        Desk.save(x, Desk.F, "f");
        for (int page : Desk.NO_PAGES) {
            check.equal("show(" + page + ")", x.show(page), -1);
        }
        for (int page = 1; page < Desk.F; page++) {
            check.equal("show(" + page + ") without revisions", x.show(page), -1);
        }
        x.remove(Desk.A);
        check.equal("show of one gone", x.show(Desk.A), -1);
        Desk.save(x, Desk.A, "");
        check.equal("show of an empty one", x.show(Desk.A), 0);
    }

    private static void shownHasEnds() {
        check.about("18 shown: Character k (from 0) of what show() showed; -1 if there is none");
        SharedPages x = new SharedPages(2);
        check.equal("before any show", x.shown(0), -1);
        Desk.save(x, Desk.A, "abc");
        check.equal("before a show of what was saved", x.shown(0), -1);
        x.show(Desk.A);
        String due = "<p>abc</p>";
        for (int k = -210; k <= 210; k++) {
            check.equal("shown(" + k + ")", x.shown(k), k >= 0 && k < 10 ? due.charAt(k) : -1);
        }
        for (int k : new int[] {256, 65536, Integer.MIN_VALUE, Integer.MAX_VALUE}) {
            check.equal("shown(" + k + ")", x.shown(k), -1);
        }
    }

    private static void shownOfTwoHundred() {
        check.about("18 shown: -1 if there is none, behind 200 characters");
        SharedPages x = new SharedPages(2);
        Desk.save(x, Desk.A, "&".repeat(40));
        x.show(Desk.A);
        check.equal("shown(199)", x.shown(199), "&amp;".charAt((199 - 3) % 5));
        for (int k = 200; k < 210; k++) {
            check.equal("shown(" + k + ")", x.shown(k), -1);
        }
    }

    private static void shownStays() {
        check.about("18 shown: of what the latest show() that did not answer -1 showed");
        SharedPages x = new SharedPages(2);
        Desk.save(x, Desk.A, "abc");
        x.show(Desk.A);
        check.equal("show of no page", x.show(6), -1);
        check.equal("show of a page that is not there", x.show(Desk.B), -1);
        check.equal("after refused shows", Desk.screen(x), "<p>abc</p>");
        Desk.save(x, Desk.A, "xyz");
        check.equal("after a save", Desk.screen(x), "<p>abc</p>");
        x.remove(Desk.A);
        check.equal("show of one gone", x.show(Desk.A), -1);
        check.equal("after a removal", Desk.screen(x), "<p>abc</p>");
        x.cut(0);
        x.revert(Desk.A, 1);
        check.equal("show while down", x.show(Desk.A), -1);
        check.equal("while down", Desk.screen(x), "<p>abc</p>");
        x.recover(1);
        check.equal("after recovering", Desk.screen(x), "<p>abc</p>");
        Desk.save(x, Desk.B, "q");
        check.equal("a shorter one", x.show(Desk.B), 8);
        check.equal("after a shorter one", Desk.screen(x), "<p>q</p>");
        Desk.save(x, Desk.B, "");
        check.equal("an empty one", x.show(Desk.B), 0);
        check.equal("after an empty one", x.shown(0), -1);
    }
}
