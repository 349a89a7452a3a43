/** Promises 19 to 21: cut, recover and writes. */
final class JournalTest {
    private static final Check check = new Check();

    public static void main(String[] args) {
        writesOfWorks();
        everyCutOfAWork();
        everyCutOfARemoval();
        aDeltaIsCutOff();
        recoveringBeginsAnew();
        cutIsForOneWork();
        cutIsReplaced();
        cutRefuses();
        recoverRefuses();
        aPendingOneCounts();
        check.end();
    }

    private static void writesOfWorks() {
        int[] sizes = {0, 1, 7, 8, 9, 16, 17, 32, 33, 40};
        int[] due = {2, 4, 4, 4, 6, 6, 8, 10, 12, 12};
        for (int k = 0; k < sizes.length; k++) {
            SharedPages x = new SharedPages(1);
            Desk.save(x, Desk.A, "a".repeat(sizes[k]));
            check.equal("writes of size " + sizes[k], x.writes(), due[k]);
        }
        SharedPages x = new SharedPages(5);
        Desk.save(x, Desk.A, "a".repeat(40));
        Desk.save(x, Desk.A, "b");
        check.equal("writes of a delta more", x.writes(), 12 + 4);
        x.remove(Desk.A);
        check.equal("writes of a removal more", x.writes(), 12 + 4 + 2);
        x.revert(Desk.A, 1);
        check.equal("writes of a revert more", x.writes(), 12 + 4 + 2 + 12);
    }

    /** A text of 17 characters has 3 blocks: 3 writes, 1 that closes the journal, 3 and 1 more. */
    private static void everyCutOfAWork() {
        for (int k = 0; k <= 9; k++) {
            SharedPages x = new SharedPages(1);
            check.equal("cut(" + k + ")", x.cut(k), true);
            int answer = Desk.save(x, Desk.C, "a".repeat(17));
            if (k >= 8) {
                check.equal("not cut off after " + k, answer, 1);
                check.equal("all writes", x.writes(), 8);
                check.equal("still up", x.recover(9), -1);
            } else {
                check.equal("cut off after " + k, answer, -5);
                check.equal("writes before the cut", x.writes(), k);
                check.equal("down", x.latest(Desk.C), -1);
                recovered(x, k, k <= 3 ? 1 : 4, k <= 3 ? 0 : 1);
            }
        }
    }

    private static void recovered(SharedPages x, int before, int writes, int latest) {
        check.equal("recover after " + before, x.recover(Integer.MAX_VALUE), writes);
        check.equal("writes with recovering", x.writes(), before + writes);
        check.equal("latest then", x.latest(Desk.C), latest);
        check.equal("there then", x.there(Desk.C), latest == 1);
        check.equal("size then", x.size(Desk.C, 1), latest == 1 ? 17 : -1);
        check.equal("the next one", x.save(Desk.C, latest), latest + 1);
        check.equal("up", x.recover(1), -1);
    }

    private static void everyCutOfARemoval() {
        for (int k = 0; k <= 2; k++) {
            SharedPages x = new SharedPages(1);
            Desk.save(x, Desk.A, "");
            x.cut(k);
            check.equal("removal with cut " + k, x.remove(Desk.A), k < 2 ? -5 : 2);
            check.equal("recover from it", x.recover(1), k < 2 ? 1 : -1);
            check.equal("gone if it was made", x.there(Desk.A), k == 0);
            check.equal("latest of it", x.latest(Desk.A), k == 0 ? 1 : 2);
        }
    }

    private static void aDeltaIsCutOff() {
        SharedPages x = new SharedPages(5);
        Desk.save(x, Desk.A, "one\ntwo\nthree");
        x.cut(2);
        check.equal("a delta of one block", Desk.save(x, Desk.A, 1, "one\n2\nthree"), -5);
        Desk.write(x, "something else");
        check.equal("recover", x.recover(5), 2);
        check.equal("the text as it was saved", Desk.text(x, Desk.A, 2), "one\n2\nthree");
        check.equal("steps of it", x.load(Desk.A, 2), 1);
        check.equal("size of it", x.size(Desk.A, 2), 5);
        x.cut(3);
        check.equal("a revert", x.revert(Desk.A, 1), -5);
        check.equal("recover from it", x.recover(2), 2);
        check.equal("its text", Desk.text(x, Desk.A, 3), "one\ntwo\nthree");
        x.cut(1);
        check.equal("a merge", Desk.save(x, Desk.A, 2, "one\n2\nthree\n4"), -5);
        check.equal("recover to before it", x.recover(1), 1);
        check.equal("none was made", x.latest(Desk.A), 3);
        check.equal("the merge again", Desk.save(x, Desk.A, 2, "one\n2\nthree\n4"), 4);
        check.equal("the merged text", Desk.text(x, Desk.A, 4), "one\ntwo\nthree\n4");
    }

    private static void recoveringBeginsAnew() {
        SharedPages x = new SharedPages(1);
        x.cut(6);
        Desk.save(x, Desk.A, "a".repeat(40));
        check.equal("5 of 6", x.recover(5), 5);
        check.equal("still down", x.there(Desk.A), false);
        check.equal("1 of 6", x.recover(1), 1);
        check.equal("5 of 6 again", x.recover(5), 5);
        check.equal("writes while down", x.writes(), 6 + 5 + 1 + 5);
        check.equal("latest while down", x.latest(Desk.A), -1);
        check.equal("6 of 6", x.recover(6), 6);
        check.equal("writes", x.writes(), 6 + 5 + 1 + 5 + 6);
        check.equal("made once", x.latest(Desk.A), 1);
        check.equal("up", x.recover(6), -1);
    }

    private static void cutIsForOneWork() {
        SharedPages x = new SharedPages(1);
        x.cut(4);
        check.equal("a work that is not cut off", Desk.save(x, Desk.A, "a"), 1);
        check.equal("the cut is over", Desk.save(x, Desk.A, "a".repeat(40)), 2);
        x.cut(1);
        check.equal("a work that is cut off", x.save(Desk.A, 2), -5);
        x.recover(1);
        check.equal("the cut is over then", x.save(Desk.A, 2), 3);
        x.cut(0);
        check.equal("refused work", x.save(Desk.A, 9), -1);
        check.equal("refused removal", x.remove(Desk.B), -1);
        check.equal("refused revert", x.revert(Desk.B, 1), -1);
        check.equal("the cut was not used", x.remove(Desk.A), -5);
    }

    private static void cutIsReplaced() {
        SharedPages x = new SharedPages(1);
        x.cut(0);
        check.equal("cut again", x.cut(3), true);
        Desk.save(x, Desk.A, "a");
        check.equal("the later cut", x.writes(), 3);
        x.recover(2);
        x.cut(0);
        check.equal("cut behind all", x.cut(Integer.MAX_VALUE), true);
        check.equal("no cut off", x.save(Desk.A, 1), 2);
    }

    private static void cutRefuses() {
        SharedPages x = new SharedPages(1);
        check.equal("cut(-1)", x.cut(-1), false);
        check.equal("cut(least)", x.cut(Integer.MIN_VALUE), false);
        check.equal("no cut is set", Desk.save(x, Desk.A, "a"), 1);
        x.cut(1);
        check.equal("cut(-1) over one", x.cut(-1), false);
        check.equal("the one set stays", x.save(Desk.A, 1), -5);
        check.equal("cut(5) while down", x.cut(5), false);
        check.equal("cut(0) while down", x.cut(0), false);
        x.recover(1);
        check.equal("no cut is left", x.save(Desk.A, 1), 2);
    }

    private static void recoverRefuses() {
        SharedPages x = new SharedPages(1);
        check.equal("recover while up", x.recover(1), -1);
        x.cut(0);
        Desk.save(x, Desk.A, "a");
        check.equal("recover(0)", x.recover(0), -1);
        check.equal("recover(-1)", x.recover(-1), -1);
        check.equal("recover(least)", x.recover(Integer.MIN_VALUE), -1);
        check.equal("refused ones write nothing", x.writes(), 0);
        check.equal("still down", x.latest(Desk.A), -1);
        check.equal("recover(1)", x.recover(1), 1);
        check.equal("recover when up again", x.recover(1), -1);
        check.equal("writes", x.writes(), 1);
    }

    private static void aPendingOneCounts() {
        SharedPages x = new SharedPages(1);
        x.clear();
        for (int n = 1; n <= 23; n++) {
            x.save(Desk.A, n - 1);
        }
        x.cut(0);
        check.equal("the 24th is cut off", x.save(Desk.B, 0), -5);
        x.recover(1);
        check.equal("and not made", x.latest(Desk.B), 0);
        x.cut(1);
        check.equal("the 24th is cut off later", x.save(Desk.B, 0), -5);
        x.recover(1);
        check.equal("and made", x.latest(Desk.B), 1);
        check.equal("no 25th", x.save(Desk.B, 1), -4);
    }
}
