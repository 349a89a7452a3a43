/** Promises 17 and 18: show and shown. */
final class ShowTest {
    private static final Check check = new Check();

    public static void main(String[] args) {
        blocks();
        headings();
        items();
        content();
        linksTellWhatIsThere();
        includes();
        includesFill();
        includesNest();
        includesJoinBlocks();
        showEndsAfterTwoHundred();
        shownStays();
        refusals();
        check.end();
    }

    private static void shows(String text, String due) {
        SharedPages x = new SharedPages(2);
        Desk.save(x, Desk.A, text);
        check.equal("show of \"" + text + "\"", x.show(Desk.A), due.length());
        check.equal("shown of \"" + text + "\"", Desk.shown(x, Desk.A), due);
    }

    private static void blocks() {
        shows("", "");
        shows("\n\n", "");
        shows("a", "<p>a</p>");
        shows("a\nb", "<p>a b</p>");
        shows("a\n\nb", "<p>a</p><p>b</p>");
        shows("\na\n\n\nb\n", "<p>a</p><p>b</p>");
        shows(" \n ", "<p>   </p>");
        shows("a\n* b\nc", "<p>a</p><ul><li>b</li></ul><p>c</p>");
        shows("a\n=b\nc", "<p>a</p><h1>b</h1><p>c</p>");
        shows("* a\n=b\n* c", "<ul><li>a</li></ul><h1>b</h1><ul><li>c</li></ul>");
    }

    private static void headings() {
        shows("=a", "<h1>a</h1>");
        shows("==a", "<h2>a</h2>");
        shows("===a", "<h3>a</h3>");
        shows("====a", "<h3>=a</h3>");
        shows("=====", "<h3>==</h3>");
        shows("=", "<h1></h1>");
        shows("===", "<h3></h3>");
        shows("= a", "<h1> a</h1>");
        shows("=a=", "<h1>a=</h1>");
        shows(" =a", "<p> =a</p>");
        shows("=a\n=b", "<h1>a</h1><h1>b</h1>");
        shows("=* a", "<h1>* a</h1>");
        shows("==[[A]] **b", "<h2><a>A</a> <b>b</b></h2>");
    }

    private static void items() {
        shows("* a", "<ul><li>a</li></ul>");
        shows("* a\n* b", "<ul><li>a</li><li>b</li></ul>");
        shows("* a\n\n* b", "<ul><li>a</li></ul><ul><li>b</li></ul>");
        shows("* ", "<ul><li></li></ul>");
        shows("*", "<p>*</p>");
        shows("*a", "<p>*a</p>");
        shows("* * a", "<ul><li>* a</li></ul>");
        shows("* =a", "<ul><li>=a</li></ul>");
        shows("* **a", "<ul><li><b>a</b></li></ul>");
        shows("** a", "<p><b> a</b></p>");
    }

    private static void content() {
        shows("**a**", "<p><b>a</b></p>");
        shows("**a", "<p><b>a</b></p>");
        shows("a**", "<p>a<b></b></p>");
        shows("***", "<p><b>*</b></p>");
        shows("****", "<p><b></b></p>");
        shows("*****", "<p><b></b>*</p>");
        shows("**a**b**c", "<p><b>a</b>b<b>c</b></p>");
        shows("**a\nb**c", "<p><b>a</b> b<b>c</b></p>");
        shows("a * b", "<p>a * b</p>");
        shows("&<>", "<p>&amp;&lt;&gt;</p>");
        shows("&amp;", "<p>&amp;amp;</p>");
        shows("\"'/\\~", "<p>\"'/\\~</p>");
        shows("$ {{A}}", "<p>$ {{A}}</p>");
    }

    private static void linksTellWhatIsThere() {
        shows("[[A]]", "<p><a>A</a></p>");
        shows("[[B]]", "<p><u>B</u></p>");
        shows("[[Z]]", "<p><u>Z</u></p>");
        shows("[[a]]", "<p>[[a]]</p>");
        shows("[[[A]]]", "<p>[<a>A</a>]</p>");
        shows("[[A]", "<p>[[A]</p>");
        shows("[[A", "<p>[[A</p>");
        shows("[[", "<p>[[</p>");
        shows("**[[A]]**", "<p><b><a>A</a></b></p>");
        shows("[[**]]", "<p>[[<b>]]</b></p>");
        SharedPages x = new SharedPages(2);
        Desk.save(x, Desk.A, "[[B]][[F]]");
        Desk.save(x, Desk.B, "b");
        Desk.save(x, Desk.F, "");
        check.equal("there", Desk.shown(x, Desk.A), "<p><a>B</a><a>F</a></p>");
        x.remove(Desk.B);
        check.equal("gone", Desk.shown(x, Desk.A), "<p><u>B</u><a>F</a></p>");
    }

    private static void includes() {
        shows("{{A}}", "<p>!A</p>");
        shows("{{Ax}}", "<p>!A</p>");
        shows("{{B}}", "<p>?B</p>");
        shows("{{B>}}", "<p>?B</p>");
        shows("{{Z}}", "<p>?Z</p>");
        shows("{{Z}}}", "<p>?Z</p>");
        shows("{{z}}", "<p>{{z}}</p>");
        shows("{{Bxy}}", "<p>{{Bxy}}</p>");
        shows("{{B}} ", "<p>{{B}} </p>");
        shows(" {{B}}", "<p> {{B}}</p>");
        shows("{{}}", "<p>{{}}</p>");
        shows("{{}}}}", "<p>{{}}}}</p>");
        SharedPages x = new SharedPages(2);
        Desk.save(x, Desk.A, "a\n{{B}}\nc");
        Desk.save(x, Desk.B, "=b");
        check.equal("include", Desk.shown(x, Desk.A), "<p>a</p><h1>b</h1><p>c</p>");
        x.remove(Desk.B);
        check.equal("include of one gone", Desk.shown(x, Desk.A), "<p>a ?B c</p>");
        Desk.save(x, Desk.B, "");
        check.equal("include of an empty one", Desk.shown(x, Desk.A), "<p>a</p><p>c</p>");
    }

    private static void includesFill() {
        SharedPages x = new SharedPages(2);
        Desk.save(x, Desk.A, "{{Bx}}\n{{B}}\n{{B$}}\n$");
        Desk.save(x, Desk.B, "$-$");
        check.equal("filled", Desk.shown(x, Desk.A), "<p>x-x $-$ $-$ $</p>");
        Desk.save(x, Desk.A, "{{B=}}\n{{B<}}\n{{B}}}");
        check.equal("filled as text", Desk.shown(x, Desk.A), "<h1>-=</h1><p>&lt;-&lt; }-}</p>");
        Desk.save(x, Desk.B, "{{C$}}\n{{$}}\n{{C}}");
        Desk.save(x, Desk.C, "($)");
        Desk.save(x, Desk.A, "{{Bx}}");
        check.equal("filled before includes", Desk.shown(x, Desk.A), "<p>(x) {{x}} ($)</p>");
        Desk.save(x, Desk.A, "{{BC}}");
        check.equal("filled to an include", Desk.shown(x, Desk.A), "<p>(C) ($) ($)</p>");
        Desk.save(x, Desk.B, "[[$]] $$b");
        Desk.save(x, Desk.A, "{{BA}}\n{{B*}}");
        check.equal("filled to content", Desk.shown(x, Desk.A), "<p><a>A</a> AAb [[*]] <b>b</b></p>");
        check.equal("not filled when shown itself", Desk.shown(x, Desk.B), "<p>[[$]] $$b</p>");
    }

    private static void includesNest() {
        SharedPages x = new SharedPages(2);
        Desk.save(x, Desk.A, "a\n{{B}}\n{{B}}");
        Desk.save(x, Desk.B, "b\n{{C}}\n{{A}}\n{{B}}");
        Desk.save(x, Desk.C, "c\n{{D}}\n{{A}}");
        Desk.save(x, Desk.D, "d\n{{E}}\n{{C}}\n{{F}}");
        Desk.save(x, Desk.E, "e");
        String b = "b c d ^E !C ?F !A !A !B";
        check.equal("nested", Desk.shown(x, Desk.A), "<p>a " + b + " " + b + "</p>");
        check.equal("less nested", Desk.shown(x, Desk.C), "<p>c d e !C ?F a b !C !A !B b !C !A !B</p>");
        Desk.save(x, Desk.F, "f");
        check.equal("and the sixth", Desk.shown(x, Desk.D), "<p>d e c !D a b !C !A !B b !C !A !B f</p>");
    }

    private static void includesJoinBlocks() {
        SharedPages x = new SharedPages(2);
        Desk.save(x, Desk.A, "* a\n{{B}}\n* d");
        Desk.save(x, Desk.B, "* b\n* c");
        check.equal("items join", Desk.shown(x, Desk.A), "<ul><li>a</li><li>b</li><li>c</li><li>d</li></ul>");
        Desk.save(x, Desk.B, "**b");
        Desk.save(x, Desk.A, "a\n{{B}}\nd");
        check.equal("plain lines join", Desk.shown(x, Desk.A), "<p>a <b>b</b> d</p>");
    }

    private static void showEndsAfterTwoHundred() {
        SharedPages x = new SharedPages(2);
        Desk.save(x, Desk.A, "{{B}}");
        Desk.save(x, Desk.B, "&".repeat(40));
        check.equal("more than fits", x.show(Desk.A), 200);
        check.equal("the first 200", Desk.shown(x, Desk.A), ("<p>" + "&amp;".repeat(40)).substring(0, 200));
        check.equal("shown(199)", x.shown(199), 'a');
        check.equal("shown(200)", x.shown(200), -1);
        Desk.save(x, Desk.B, "&".repeat(38) + "ab");
        check.equal("199", x.show(Desk.B), 199);
        check.equal("no 200th", x.shown(199), -1);
        Desk.save(x, Desk.B, "&".repeat(37) + "<<");
        check.equal("200", x.show(Desk.B), 200);
        check.equal("the 200th", x.shown(199), '>');
        Desk.save(x, Desk.B, "&".repeat(37) + "<<a");
        check.equal("201", x.show(Desk.B), 200);
        check.equal("the 200th of 201", x.shown(199), 'p');
        SharedPages y = new SharedPages(2);
        Desk.save(y, Desk.A, "{{B}}\n{{B}}\n{{B}}\n{{B}}\n{{B}}\n{{B}}");
        Desk.save(y, Desk.B, "{{C}}\n{{C}}\n{{C}}\n{{C}}\n{{C}}\n{{C}}");
        Desk.save(y, Desk.C, "{{D}}\n{{D}}\n{{D}}\n{{D}}\n{{D}}\n{{D}}");
        Desk.save(y, Desk.D, "\n".repeat(40));
        check.equal("many empty lines", y.show(Desk.A), 0);
        Desk.save(y, Desk.D, "* x");
        check.equal("many items", y.show(Desk.A), 200);
        check.equal("the last of them", y.shown(199), ("<ul>" + "<li>x</li>".repeat(20)).charAt(199));
    }

    private static void shownStays() {
        SharedPages x = new SharedPages(2);
        check.equal("nothing shown yet", x.shown(0), -1);
        Desk.save(x, Desk.A, "abc");
        check.equal("not yet shown", x.shown(0), -1);
        check.equal("show", x.show(Desk.A), 10);
        check.equal("shown(-1)", x.shown(-1), -1);
        check.equal("shown(0)", x.shown(0), '<');
        check.equal("shown(3)", x.shown(3), 'a');
        check.equal("shown(9)", x.shown(9), '>');
        check.equal("shown(10)", x.shown(10), -1);
        check.equal("shown(greatest)", x.shown(Integer.MAX_VALUE), -1);
        check.equal("shown(least)", x.shown(Integer.MIN_VALUE), -1);
        check.equal("show of no page", x.show(Desk.B), -1);
        check.equal("shown after a refused show", x.shown(3), 'a');
        Desk.save(x, Desk.A, "xyz");
        check.equal("shown after a save", x.shown(3), 'a');
        x.cut(0);
        x.save(Desk.A, 2);
        check.equal("show while down", x.show(Desk.A), -1);
        check.equal("shown while down", x.shown(3), 'a');
        x.recover(1);
        Desk.save(x, Desk.B, "q");
        check.equal("a shorter one", x.show(Desk.B), 8);
        check.equal("shown of it", x.shown(3), 'q');
        check.equal("shown behind it", x.shown(8), -1);
        Desk.save(x, Desk.B, "");
        check.equal("an empty one", x.show(Desk.B), 0);
        check.equal("shown of an empty one", x.shown(0), -1);
    }

    private static void refusals() {
        SharedPages x = new SharedPages(2);
        Desk.save(x, Desk.A, "a");
        for (int page : new int[] {-1, 1, 5, 6, Integer.MIN_VALUE, Integer.MAX_VALUE}) {
            check.equal("show(" + page + ")", x.show(page), -1);
        }
        x.remove(Desk.A);
        check.equal("show of one gone", x.show(Desk.A), -1);
    }
}
