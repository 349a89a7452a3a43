/** Promises 1 to 21 at once: long runs of calls, each answer compared with the model's. */
final class ModelTest {
    private static final int RUNS = 4000;
    private static final int CALLS = 512;
    private static final String[] PIECES = {
        "a", "b", "c", "\n", "\n", "\n", "a\n", "b\n", "a\nb\nc\n", "=", "==", "* ", "**", "*", "[[A]]", "[[B]]", "[[C]]",
        "[[D]]", "[[E]]", "[[F]]", "[[Q]]", "[", "]]", "{{A}}\n", "{{B}}\n", "{{C}}\n", "{{D$}}\n", "{{E}}\n", "{{F<}}\n",
        "{{Bx}}\n", "{{C*}}\n", "{{A=}}\n", "{{DE}}\n", "{{$}}\n", "{{G}}\n", "{{", "}}", "$", "$$", "&", "<", ">", " ",
        "\n{{B}}\n", "\n{{C}}\n", "\n{{D}}\n", "\n{{E}}\n", "\n{{F}}\n", "x", "long words", "~"};

    private final Check check = new Check();
    private final String name;
    private final SharedPages real;
    private final Model model;
    private long seed;
    private int calls;

    private ModelTest(int run) {
        seed = run * 7919L + 17;
        int every = pick(9) - 1;
        name = "run " + run + ", every " + every;
        real = new SharedPages(every);
        model = new Model(every);
    }

    public static void main(String[] args) {
        for (int run = 0; run < RUNS; run++) {
            ModelTest test = new ModelTest(run);
            if (run % 4 == 0) {
                test.showRun();
            } else {
                test.mixedRun(run % 4);
            }
            test.check.equal(test.name + ": calls", test.calls <= CALLS, true);
            test.check.end();
        }
    }

    /** The same numbers in every run of the test, so that a failure can be seen again. */
    private int pick(int bound) {
        seed = seed * 6364136223846793005L + 1442695040888963407L;
        return (int) ((seed >>> 33) % bound);
    }

    private int pickPage() {
        int among = pick(20);
        return among == 0 ? -1 : among == 1 ? 6 : among % 6;
    }

    private int pickRevision(int page) {
        int latest = Math.max(0, model.latest(page));
        int among = pick(12);
        return among == 0 ? -1 : among == 1 ? latest + 1 : pick(latest + 1);
    }

    private void due(String call, long got, long want) {
        calls++;
        check.equal(name + ", call " + calls + ": " + call, got, want);
    }

    private void due(String call, boolean got, boolean want) {
        due(call, got ? 1 : 0, want ? 1 : 0);
    }

    private boolean goesOn(int spare) {
        return calls < CALLS - spare && check.allRight();
    }

    private void type(String text) {
        for (int k = 0; k < text.length(); k++) {
            due("type " + (int) text.charAt(k), real.type(text.charAt(k)), model.type(text.charAt(k)));
        }
    }

    private void clear() {
        calls++;
        real.clear();
        model.clear();
    }

    private void typePieces(int most) {
        int pieces = pick(most + 1);
        for (int k = 0; k < pieces && model.length() < 40; k++) {
            type(PIECES[pick(PIECES.length)]);
        }
    }

    private void typeIncludes(int page) {
        for (int includes = pick(4); includes > 0; includes--) {
            char letter = (char) ('A' + (page + 1 + pick(2)) % 6);
            type("{{" + letter + (pick(2) == 0 ? "" : "" + (char) (32 + pick(95))) + "}}\n");
        }
    }

    /** Few characters and short lines, so that texts often share some of their lines. */
    private void typeShortLines() {
        int lines = 1 + pick(7);
        for (int k = 0; k < lines; k++) {
            type((k == 0 ? "" : "\n") + (pick(6) == 0 ? "" : "" + (char) ('a' + pick(4))));
        }
    }

    private void save(int page, int base) {
        due("save(" + page + ", " + base + ")", real.save(page, base), model.save(page, base));
    }

    private void load(int page, int revision) {
        due("load(" + page + ", " + revision + ")", real.load(page, revision), model.load(page, revision));
    }

    private void showRun() {
        for (int page = 0; page < 6 && goesOn(270); page++) {
            if (pick(5) > 0) {
                clear();
                typeIncludes(page);
                typePieces(8);
                save(page, 0);
            }
        }
        if (pick(3) == 0) {
            int gone = pickPage();
            due("remove(" + gone + ")", real.remove(gone), model.remove(gone));
        }
        for (int page = 0; page < 6; page++) {
            due("links(" + page + ")", real.links(page), model.links(page));
            due("backlinks(" + page + ")", real.backlinks(page), model.backlinks(page));
        }
        int page = pick(6);
        due("show(" + page + ")", real.show(page), model.show(page));
        for (int k = -1; k <= 200; k++) {
            due("shown(" + k + ")", real.shown(k), model.shown(k));
        }
    }

    private void mixedRun(int kind) {
        while (goesOn(170)) {
            int page = kind == 1 ? pick(2) : pickPage();
            switch (pick(18)) {
                case 0 -> typePieces(5);
                case 1, 2 -> {
                    clear();
                    if (kind == 3) {
                        typePieces(8);
                    } else {
                        typeShortLines();
                    }
                }
                case 3, 4 -> change();
                case 5, 6, 7, 8 -> save(page, pickRevision(page));
                case 9, 10 -> save(page, Math.max(0, model.latest(page)));
                case 11 -> load(page, pickRevision(page));
                case 12 -> removeOrRevert(page);
                case 13 -> journal();
                case 14 -> look(page);
                case 15 -> showSome(page);
                case 16 -> editAndSave(page);
                default -> twoWriters(page);
            }
        }
        lookAtAll();
    }

    /** What a writer does who has an older revision open. */
    private void editAndSave(int page) {
        int revision = pickRevision(page);
        load(page, revision);
        change();
        save(page, revision);
    }

    /** Two who have the latest revision open; the second one's text is merged. */
    private void twoWriters(int page) {
        int revision = Math.max(0, model.latest(page));
        for (int writer = 0; writer < 2; writer++) {
            load(page, revision);
            for (int changes = pick(3); changes >= 0; changes--) {
                change();
            }
            if (pick(4) == 0) {
                type("\nmore words");
            }
            save(page, revision);
        }
    }

    private void change() {
        int line = pick(10) - 1;
        if (pick(3) == 0) {
            due("drop(" + line + ")", real.drop(line), model.drop(line));
        } else {
            char c = pick(12) == 0 ? '\n' : pick(12) == 0 ? (char) pick(140) : (char) ('a' + pick(3));
            due("put(" + line + ", " + (int) c + ")", real.put(line, c), model.put(line, c));
        }
        char c = (char) pick(140);
        if (pick(8) == 0) {
            due("type " + (int) c, real.type(c), model.type(c));
        }
    }

    private void removeOrRevert(int page) {
        int revision = pickRevision(page);
        if (pick(2) == 0) {
            due("remove(" + page + ")", real.remove(page), model.remove(page));
        } else {
            due("revert(" + page + ", " + revision + ")", real.revert(page, revision), model.revert(page, revision));
        }
    }

    private void journal() {
        cut(pick(14) - 1);
        int page = pick(6);
        save(page, Math.max(0, model.latest(page)));
        int tries = pick(4);
        for (int t = 0; t < tries; t++) {
            int n = pick(8) - 1;
            due("recover(" + n + ")", real.recover(n), model.recover(n));
            if (pick(4) == 0) {
                cut(pick(14) - 1);
            }
        }
        look(page);
        if (pick(4) > 0) {
            due("recover(20)", real.recover(20), model.recover(20));
        }
    }

    private void cut(int k) {
        due("cut(" + k + ")", real.cut(k), model.cut(k));
    }

    private void look(int page) {
        int revision = pickRevision(page);
        due("latest(" + page + ")", real.latest(page), model.latest(page));
        due("there(" + page + ")", real.there(page), model.there(page));
        due("size(" + page + ", " + revision + ")", real.size(page, revision), model.size(page, revision));
        due("links(" + page + ")", real.links(page), model.links(page));
        due("backlinks(" + page + ")", real.backlinks(page), model.backlinks(page));
        due("writes()", real.writes(), model.writes());
    }

    private void showSome(int page) {
        due("show(" + page + ")", real.show(page), model.show(page));
        for (int t = 0; t < 6; t++) {
            int k = pick(t < 3 ? 20 : 210) - 1;
            due("shown(" + k + ")", real.shown(k), model.shown(k));
        }
    }

    private void lookAtAll() {
        due("length()", real.length(), model.length());
        for (int k = -1; k <= model.length(); k++) {
            due("at(" + k + ")", real.at(k), model.at(k));
        }
        for (int page = 0; page < 6; page++) {
            due("latest(" + page + ")", real.latest(page), model.latest(page));
            for (int n = 1; n <= model.latest(page); n++) {
                due("size(" + page + ", " + n + ")", real.size(page, n), model.size(page, n));
                load(page, n);
            }
        }
    }
}
