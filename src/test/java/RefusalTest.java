import java.util.List;
import java.util.function.Function;
import java.util.function.Supplier;

/** "A call that is refused changes nothing.": every reason to refuse that the promises 2 to 20 name. */
final class RefusalTest {
    private static final List<Supplier<SharedPages>> DOWN = List.of(Scenes::downAndOpen, Scenes::downAndClosed);
    private static final Check check = new Check();
    private static final Twins twins = new Twins(check);

    public static void main(String[] args) {
        type();
        put();
        drop();
        saveOfNoPageOrBase();
        saveBeyondTwentyFour();
        saveThatCannotBeMerged();
        revert();
        remove();
        load();
        questions();
        cut();
        recover();
        whileDown();
        check.end();
    }

    private static void busy(String what, Function<SharedPages, Object> call, Object due) {
        twins.refuses(what, Scenes::busy, call, due);
    }

    private static void full(String what, Function<SharedPages, Object> call, Object due) {
        twins.refuses(what + " with 24 made", Scenes::full, call, due);
    }

    private static void down(String what, Function<SharedPages, Object> call, Object due) {
        for (Supplier<SharedPages> scene : DOWN) {
            twins.refuses(what + " while down", scene, call, due);
        }
    }

    private static void type() {
        check.about("2 type: false (refused) if it is none, or forty are there");
        for (int code : new int[] {0, 9, 11, 13, 31, 127, 128, 160, 266, 321, 65535}) {
            busy("type(" + code + ")", x -> x.type((char) code), false);
        }
        twins.refuses("type at forty", Scenes::busyWithForty, x -> x.type('x'), false);
        twins.refuses("type of a line end at forty", Scenes::busyWithForty, x -> x.type('\n'), false);
    }

    private static void put() {
        check.about("3 put: false (refused) if there is no such line, the character is none of 32 .. 126, or forty are there");
        for (int line : new int[] {-1, 2, 3, 40, 41, 256, Integer.MIN_VALUE, Integer.MAX_VALUE}) {
            busy("put(" + line + ")", x -> x.put(line, 'x'), false);
        }
        for (int code : new int[] {0, 9, 10, 11, 31, 127, 266, 321, 65535}) {
            busy("put of " + code, x -> x.put(0, (char) code), false);
        }
        twins.refuses("put at forty", Scenes::busyWithForty, x -> x.put(0, 'x'), false);
    }

    private static void drop() {
        check.about("4 drop: false (refused) if there is no such line");
        for (int line : new int[] {-1, 2, 3, 40, 41, 256, Integer.MIN_VALUE, Integer.MAX_VALUE}) {
            busy("drop(" + line + ")", x -> x.drop(line), false);
        }
    }

    private static void saveOfNoPageOrBase() {
        check.about("8 save: -1 (refused) if there is no such page or base");
        for (int page : Desk.NO_PAGES) {
            busy("save(" + page + ", 0)", x -> x.save(page, 0), -1);
        }
        for (int base : new int[] {-1, 4, 24, 25, 256, Integer.MIN_VALUE, Integer.MAX_VALUE}) {
            busy("save(A, " + base + ")", x -> x.save(Desk.A, base), -1);
        }
        busy("save(B, 3)", x -> x.save(Desk.B, 3), -1);
        busy("save(D, 1)", x -> x.save(Desk.D, 1), -1);
        full("save(6, 0)", x -> x.save(6, 0), -1);
        full("save(A, 3)", x -> x.save(Desk.A, 3), -1);
    }

    private static void saveBeyondTwentyFour() {
        check.about("8 save: else -4 (refused) if 24 revisions were made");
        full("save(A, 2)", x -> x.save(Desk.A, 2), -4);
        full("save(A, 1), in conflict,", x -> x.save(Desk.A, 1), -4);
        full("save(C, 20)", x -> x.save(Desk.C, 20), -4);
        full("save(F, 0)", x -> x.save(Desk.F, 0), -4);
    }

    private static void saveThatCannotBeMerged() {
        check.about("8 save: else -2 (refused) if there is a conflict");
        twins.refuses("save(A, 1) in conflict", Scenes::busyWithConflict, x -> x.save(Desk.A, 1), -2);
        check.about("8 save: else -3 (refused) if the merged text has more than forty characters");
        twins.refuses("save(A, 2) of too much", Scenes::busyWithTooMuch, x -> x.save(Desk.A, 2), -3);
    }

    private static void revert() {
        check.about("9 revert: -1 (refused) also if that one is gone or there is none");
        busy("revert(B, 2), which is gone,", x -> x.revert(Desk.B, 2), -1);
        for (int revision : new int[] {0, -1, 4, 24, 25, 256, Integer.MIN_VALUE, Integer.MAX_VALUE}) {
            busy("revert(A, " + revision + ")", x -> x.revert(Desk.A, revision), -1);
        }
        busy("revert(D, 1)", x -> x.revert(Desk.D, 1), -1);
        for (int page : Desk.NO_PAGES) {
            busy("revert(" + page + ", 1)", x -> x.revert(page, 1), -1);
        }
        full("revert(B, 2), which is gone,", x -> x.revert(Desk.B, 2), -1);
        full("revert(A, 0)", x -> x.revert(Desk.A, 0), -1);
        full("revert(A, 3)", x -> x.revert(Desk.A, 3), -1);
        check.about("9 revert: Answers as save(): -4 (refused) if 24 revisions were made");
        full("revert(A, 1)", x -> x.revert(Desk.A, 1), -4);
        full("revert(B, 1)", x -> x.revert(Desk.B, 1), -4);
    }

    private static void remove() {
        check.about("10 remove: -1 (refused) also if the page is not there");
        busy("remove(B), which is gone,", x -> x.remove(Desk.B), -1);
        busy("remove(D), which has no revision,", x -> x.remove(Desk.D), -1);
        for (int page : Desk.NO_PAGES) {
            busy("remove(" + page + ")", x -> x.remove(page), -1);
        }
        full("remove(B), which is gone,", x -> x.remove(Desk.B), -1);
        full("remove(F), which has no revision,", x -> x.remove(Desk.F), -1);
        check.about("10 remove: Answers as save(): -4 (refused) if 24 revisions were made");
        full("remove(A)", x -> x.remove(Desk.A), -4);
    }

    private static void load() {
        check.about("11 load: -1 (refused) if there is no such page or revision");
        for (int revision : new int[] {0, -1, 4, 24, 25, 256, Integer.MIN_VALUE, Integer.MAX_VALUE}) {
            busy("load(A, " + revision + ")", x -> x.load(Desk.A, revision), -1);
        }
        busy("load(D, 1)", x -> x.load(Desk.D, 1), -1);
        busy("load(D, 0)", x -> x.load(Desk.D, 0), -1);
        for (int page : Desk.NO_PAGES) {
            busy("load(" + page + ", 1)", x -> x.load(page, 1), -1);
        }
    }

    private static void questions() {
        check.about("12 to 18: -1, or false, if there is no such page, revision or character");
        for (int page : Desk.NO_PAGES) {
            busy("latest(" + page + ")", x -> x.latest(page), -1);
            busy("there(" + page + ")", x -> x.there(page), false);
            busy("size(" + page + ", 1)", x -> x.size(page, 1), -1);
            busy("links(" + page + ")", x -> x.links(page), -1);
            busy("backlinks(" + page + ")", x -> x.backlinks(page), -1);
            busy("show(" + page + ")", x -> x.show(page), -1);
        }
        busy("size(A, 0)", x -> x.size(Desk.A, 0), -1);
        busy("size(A, 4)", x -> x.size(Desk.A, 4), -1);
        busy("show(B), which is gone,", x -> x.show(Desk.B), -1);
        busy("show(D), which has no revision,", x -> x.show(Desk.D), -1);
        busy("shown(-1)", x -> x.shown(-1), -1);
        busy("shown(200)", x -> x.shown(200), -1);
        busy("at(-1)", x -> x.at(-1), -1);
        busy("at(7)", x -> x.at(7), -1);
    }

    private static void cut() {
        check.about("19 cut: false (refused) if k is less than 0 or the wiki is down");
        for (int k : new int[] {-1, -2, -8, Integer.MIN_VALUE}) {
            busy("cut(" + k + ")", x -> x.cut(k), false);
            down("cut(" + k + ")", x -> x.cut(k), false);
        }
        for (int k : new int[] {0, 1, 3, Integer.MAX_VALUE}) {
            down("cut(" + k + ")", x -> x.cut(k), false);
        }
    }

    private static void recover() {
        check.about("20 recover: -1 (refused) if the wiki is up or n is less than 1");
        for (int n : new int[] {1, 4, Integer.MAX_VALUE, 0, -1, Integer.MIN_VALUE}) {
            busy("recover(" + n + ")", x -> x.recover(n), -1);
        }
        for (int n : new int[] {0, -1, -4, Integer.MIN_VALUE}) {
            down("recover(" + n + ")", x -> x.recover(n), -1);
        }
    }

    private static void whileDown() {
        check.about("While it is down, calls with a page are refused. A call that is refused changes nothing.");
        for (int page = 0; page < Desk.PAGES; page++) {
            int one = page;
            down("save(" + one + ", 0)", x -> x.save(one, 0), -1);
            down("save(" + one + ", 3)", x -> x.save(one, 3), -1);
            down("revert(" + one + ", 1)", x -> x.revert(one, 1), -1);
            down("remove(" + one + ")", x -> x.remove(one), -1);
            down("load(" + one + ", 1)", x -> x.load(one, 1), -1);
            down("latest(" + one + ")", x -> x.latest(one), -1);
            down("there(" + one + ")", x -> x.there(one), false);
            down("size(" + one + ", 1)", x -> x.size(one, 1), -1);
            down("links(" + one + ")", x -> x.links(one), -1);
            down("backlinks(" + one + ")", x -> x.backlinks(one), -1);
            down("show(" + one + ")", x -> x.show(one), -1);
        }
        down("save(6, 0)", x -> x.save(6, 0), -1);
        down("load(-1, 1)", x -> x.load(-1, 1), -1);
    }
}
