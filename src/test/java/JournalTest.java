/** Promises 19 to 21 and the terms writes, cut and recover. */
final class JournalTest {
    private static final Check check = new Check();

    public static void main(String[] args) {
        blocksOfASize();
        writesOfEveryWork();
        refusedCallsWriteNothing();
        everyCutOfAWork();
        everyCutOfAnEmptyWork();
        worksThatAreCutOff();
        theCutIsOverThen();
        theCutWaitsForAWork();
        cutTakesThePlaceOfOneSet();
        cutNeedsANumberOfWrites();
        cutWhileDown();
        recoveringTakesBack();
        recoveringMakes();
        untilThenAsBefore();
        recoverWithJustEnough();
        recoveringBeginsAnew();
        recoverNeedsWrites();
        recoverWhileUp();
        check.end();
    }

    private static void blocksOfASize() {
        check.about("WRITES: b = (s + 7) / 8 blocks: 2 * b + 2");
        int[] due = {
            2, 4, 4, 4, 4, 4, 4, 4, 4, 6, 6, 6, 6, 6, 6, 6, 6, 8, 8, 8, 8, 8, 8, 8, 8, 10, 10, 10, 10, 10, 10, 10, 10,
            12, 12, 12, 12, 12, 12, 12, 12};
        for (int size = 0; size <= 40; size++) {
            SharedPages x = new SharedPages(1);
            Desk.save(x, Desk.A, "a".repeat(size));
            check.equal("writes of size " + size, x.writes(), due[size]);
        }
        SharedPages x = new SharedPages(5);
        Desk.save(x, Desk.A, "\n".repeat(40));
        Desk.save(x, Desk.A, "a\n\n".repeat(13) + "b");
        check.equal("writes of sizes 40 and 70", x.writes(), 12 + 20);
    }

    private static void writesOfEveryWork() {
        check.about("21 writes: How many writes were made");
        SharedPages x = new SharedPages(5);
        check.equal("of a new object", x.writes(), 0);
        Desk.save(x, Desk.A, "a".repeat(40));
        check.equal("with a snapshot", x.writes(), 12);
        Desk.save(x, Desk.A, "b");
        check.equal("with a delta", x.writes(), 12 + 4);
        Desk.save(x, Desk.A, "b");
        check.equal("with a delta of nothing", x.writes(), 12 + 4 + 2);
        x.remove(Desk.A);
        check.equal("with a removal", x.writes(), 12 + 4 + 2 + 2);
        x.revert(Desk.A, 1);
        check.equal("with a revert", x.writes(), 12 + 4 + 2 + 2 + 12);
        x.cut(3);
        x.revert(Desk.A, 1);
        check.equal("with one cut off", x.writes(), 12 + 4 + 2 + 2 + 12 + 3);
        x.recover(1);
        check.equal("with recovering", x.writes(), 12 + 4 + 2 + 2 + 12 + 3 + 1);
    }

    private static void refusedCallsWriteNothing() {
        check.about("21 writes: none of a call that is refused");
        SharedPages x = new SharedPages(1);
        Desk.save(x, Desk.A, "a");
        x.save(Desk.A, 2);
        Desk.save(x, Desk.A, 0, "b");
        x.revert(Desk.A, 2);
        x.remove(Desk.B);
        x.load(Desk.A, 1);
        x.show(Desk.A);
        x.cut(-1);
        x.recover(9);
        check.equal("writes", x.writes(), 4);
    }

    /** A text of 17 characters has 3 blocks: 3 writes, 1 that closes the journal, 3 and 1 more. */
    private static void everyCutOfAWork() {
        check.about("WRITES: If a CUT after k writes is set, and k is less than that, the work is CUT OFF after k writes; RECOVER: k at most b");
        for (int k = 0; k <= 9; k++) {
            SharedPages x = new SharedPages(1);
            check.equal("cut(" + k + ")", x.cut(k), true);
            int answer = Desk.save(x, Desk.C, "a".repeat(17));
            if (k >= 8) {
                check.equal("not cut off after " + k, answer, 1);
                check.equal("all writes", x.writes(), 8);
                check.equal("still up", x.recover(9), -1);
            } else {
                check.equal("cut off after " + k, answer, -5);
                check.equal("writes before the cut", x.writes(), k);
                check.equal("down", x.latest(Desk.C), -1);
                recovered(x, k, k <= 3 ? 1 : 4, k <= 3 ? 0 : 1);
            }
        }
    }

    private static void recovered(SharedPages x, int before, int writes, int latest) {
        check.equal("recover after " + before, x.recover(Integer.MAX_VALUE), writes);
        check.equal("writes with recovering", x.writes(), before + writes);
        check.equal("latest then", x.latest(Desk.C), latest);
        check.equal("there then", x.there(Desk.C), latest == 1);
        check.equal("size then", x.size(Desk.C, 1), latest == 1 ? 17 : -1);
        check.equal("the next one", x.save(Desk.C, latest), latest + 1);
        check.equal("up", x.recover(1), -1);
    }

    /** Without blocks there are two writes: one that closes the journal and one that ends the work. */
    private static void everyCutOfAnEmptyWork() {
        check.about("WRITES of a revision of size 0; RECOVER: k at most b, which is 0");
        for (int k = 0; k <= 2; k++) {
            SharedPages x = new SharedPages(1);
            Desk.save(x, Desk.A, "");
            x.cut(k);
            check.equal("removal with cut " + k, x.remove(Desk.A), k < 2 ? -5 : 2);
            check.equal("writes", x.writes(), 2 + k);
            check.equal("recover from it", x.recover(1), k < 2 ? 1 : -1);
            check.equal("there if it was taken back", x.there(Desk.A), k == 0);
            check.equal("latest of it", x.latest(Desk.A), k == 0 ? 1 : 2);
        }
    }

    private static void worksThatAreCutOff() {
        check.about("8 save, 9 revert, 10 remove: -5 if it was cut off");
        SharedPages x = new SharedPages(5);
        Desk.save(x, Desk.A, "one\ntwo\nthree");
        x.cut(2);
        check.equal("a delta of one block", Desk.save(x, Desk.A, 1, "one\n2\nthree"), -5);
        Desk.write(x, "something else");
        check.equal("recover", x.recover(5), 2);
        check.equal("the text as it was saved", Desk.text(x, Desk.A, 2), "one\n2\nthree");
        check.equal("steps of it", x.load(Desk.A, 2), 1);
        check.equal("size of it", x.size(Desk.A, 2), 5);
        x.cut(3);
        check.equal("a revert", x.revert(Desk.A, 1), -5);
        check.equal("recover from it", x.recover(2), 2);
        check.equal("its text", Desk.text(x, Desk.A, 3), "one\ntwo\nthree");
        x.cut(1);
        check.equal("a merge", Desk.save(x, Desk.A, 2, "one\n2\nthree\n4"), -5);
        check.equal("recover to before it", x.recover(1), 1);
        check.equal("none was made", x.latest(Desk.A), 3);
        check.equal("the merge again", Desk.save(x, Desk.A, 2, "one\n2\nthree\n4"), 4);
        check.equal("the merged text", Desk.text(x, Desk.A, 4), "one\ntwo\nthree\n4");
        x.cut(1);
        check.equal("a removal", x.remove(Desk.A), -5);
        check.equal("recover from that", x.recover(1), 1);
        check.equal("gone", x.there(Desk.A), false);
    }

    private static void theCutIsOverThen() {
        check.about("WRITES: Either way the cut is over then");
        SharedPages x = new SharedPages(1);
        x.cut(4);
        check.equal("a work that is not cut off", Desk.save(x, Desk.A, "a"), 1);
        check.equal("a larger one behind it", Desk.save(x, Desk.A, "a".repeat(40)), 2);
        x.cut(1);
        check.equal("a work that is cut off", x.save(Desk.A, 2), -5);
        x.recover(1);
        check.equal("the next one", x.save(Desk.A, 2), 3);
        int n = 3;
        for (int k : new int[] {12, 256, 65536, Integer.MAX_VALUE}) {
            x.cut(k);
            check.equal("a work before the cut after " + k, x.save(Desk.A, n), n + 1);
            check.equal("the one behind it", x.save(Desk.A, n + 1), n + 2);
            n += 2;
        }
    }

    private static void theCutWaitsForAWork() {
        check.about("19 cut: Sets the cut of the next work (a call that is refused or only asks is none)");
        SharedPages x = new SharedPages(1);
        Desk.save(x, Desk.A, "a");
        x.cut(0);
        x.show(Desk.A);
        x.load(Desk.A, 1);
        x.type('b');
        check.equal("refused work", x.save(Desk.A, 9), -1);
        check.equal("refused removal", x.remove(Desk.B), -1);
        check.equal("refused revert", x.revert(Desk.B, 1), -1);
        check.equal("refused recovering", x.recover(1), -1);
        check.equal("refused merge", Desk.save(x, Desk.A, 0, "c"), -2);
        check.equal("still up", x.latest(Desk.A), 1);
        check.equal("the next work", x.remove(Desk.A), -5);
    }

    private static void cutTakesThePlaceOfOneSet() {
        check.about("19 cut: in place of one that is set: true");
        SharedPages x = new SharedPages(1);
        check.equal("cut", x.cut(0), true);
        check.equal("cut again", x.cut(3), true);
        Desk.save(x, Desk.A, "a");
        check.equal("the later cut, a greater one", x.writes(), 3);
        x.recover(2);
        x.cut(3);
        x.cut(1);
        check.equal("cut off", x.save(Desk.A, 1), -5);
        check.equal("the later cut, a lesser one", x.writes(), 3 + 2 + 1);
        x.recover(1);
        x.cut(0);
        check.equal("cut behind all", x.cut(Integer.MAX_VALUE), true);
        check.equal("no cut off", x.save(Desk.A, 1), 2);
    }

    private static void cutNeedsANumberOfWrites() {
        check.about("19 cut: false (refused) if k is less than 0");
        SharedPages x = new SharedPages(1);
        for (int k : new int[] {-1, -2, -256, Integer.MIN_VALUE}) {
            check.equal("cut(" + k + ")", x.cut(k), false);
        }
        check.equal("no cut is set", Desk.save(x, Desk.A, "a"), 1);
        x.cut(1);
        check.equal("cut(-1) over one", x.cut(-1), false);
        check.equal("the one set stays", x.save(Desk.A, 1), -5);
        x.recover(1);
        check.equal("cut(0)", x.cut(0), true);
        check.equal("cut off before the first write", x.save(Desk.A, 1), -5);
        check.equal("writes", x.writes(), 4 + 1 + 1);
    }

    private static void cutWhileDown() {
        check.about("19 cut: false (refused) if the wiki is down");
        SharedPages x = new SharedPages(1);
        x.cut(0);
        Desk.save(x, Desk.A, "a");
        for (int k : new int[] {0, 1, 5, Integer.MAX_VALUE, -1}) {
            check.equal("cut(" + k + ") while down", x.cut(k), false);
        }
        x.recover(1);
        check.equal("no cut is set", x.save(Desk.A, 0), 1);
        check.equal("cut when up again", x.cut(0), true);
    }

    private static void recoveringTakesBack() {
        check.about("RECOVER: if the journal had not been closed (k at most b), 1 write, and there is no such revision");
        for (int k = 0; k <= 2; k++) {
            SharedPages x = new SharedPages(1);
            Desk.save(x, Desk.A, "before");
            x.cut(k);
            Desk.save(x, Desk.A, 1, "0123456789");
            check.equal("recover", x.recover(1), 1);
            check.equal("latest", x.latest(Desk.A), 1);
            check.equal("size", x.size(Desk.A, 2), -1);
            check.equal("load", x.load(Desk.A, 2), -1);
            check.equal("text", Desk.text(x, Desk.A, 1), "before");
            check.equal("its number is free", Desk.save(x, Desk.A, 1, "after"), 2);
            check.equal("text of that", Desk.text(x, Desk.A, 2), "after");
        }
    }

    private static void recoveringMakes() {
        check.about("RECOVER: else b + 1 writes, and it is made");
        for (int k = 3; k <= 5; k++) {
            SharedPages x = new SharedPages(1);
            Desk.save(x, Desk.A, "before");
            x.cut(k);
            Desk.save(x, Desk.A, 1, "0123456789");
            check.equal("recover", x.recover(3), 3);
            check.equal("latest", x.latest(Desk.A), 2);
            check.equal("size", x.size(Desk.A, 2), 10);
            check.equal("text", Desk.text(x, Desk.A, 2), "0123456789");
            check.equal("writes", x.writes(), 4 + k + 3);
        }
    }

    private static void untilThenAsBefore() {
        check.about("RECOVER: Until then the revisions are as before the work");
        SharedPages x = Scenes.downAndClosed();
        check.equal("too few writes", x.recover(3), 3);
        check.equal("latest", x.latest(Desk.A), -1);
        check.equal("there", x.there(Desk.A), false);
        check.equal("the rest", x.recover(4), 4);
        check.equal("latest then", x.latest(Desk.A), 4);
        check.equal("made once", x.size(Desk.A, 5), -1);
        SharedPages y = Scenes.downAndOpen();
        y.recover(1);
        check.equal("taken back", y.latest(Desk.A), 3);
    }

    private static void recoverWithJustEnough() {
        check.about("20 recover: Recovers, if n writes are enough, the wiki is up then; else the n writes are made and it stays down");
        for (int n = 1; n <= 6; n++) {
            SharedPages x = Scenes.downAndClosed();
            int writes = x.writes();
            check.equal("recover(" + n + ") of 4", x.recover(n), Math.min(n, 4));
            check.equal("writes", x.writes(), writes + Math.min(n, 4));
            check.equal("latest", x.latest(Desk.A), n < 4 ? -1 : 4);
            check.equal("recover again", x.recover(4), n < 4 ? 4 : -1);
            SharedPages y = Scenes.downAndOpen();
            check.equal("recover(" + n + ") of 1", y.recover(n), 1);
            check.equal("latest", y.latest(Desk.A), 3);
        }
        for (int n : new int[] {256, 65536, Integer.MAX_VALUE}) {
            check.equal("recover(" + n + ") of 4", Scenes.downAndClosed().recover(n), 4);
            check.equal("recover(" + n + ") of 1", Scenes.downAndOpen().recover(n), 1);
        }
    }

    private static void recoveringBeginsAnew() {
        check.about("20 recover: it stays down (and recovering begins anew the next time)");
        SharedPages x = new SharedPages(1);
        x.cut(6);
        Desk.save(x, Desk.A, "a".repeat(40));
        check.equal("5 of 6", x.recover(5), 5);
        check.equal("1 of 6", x.recover(1), 1);
        check.equal("5 of 6 again", x.recover(5), 5);
        check.equal("writes while down", x.writes(), 6 + 5 + 1 + 5);
        check.equal("latest while down", x.latest(Desk.A), -1);
        check.equal("6 of 6", x.recover(6), 6);
        check.equal("writes", x.writes(), 6 + 5 + 1 + 5 + 6);
        check.equal("made once", x.latest(Desk.A), 1);
        check.equal("up", x.recover(6), -1);
    }

    private static void recoverNeedsWrites() {
        check.about("20 recover: -1 (refused) if n is less than 1");
        SharedPages x = new SharedPages(1);
        x.cut(0);
        Desk.save(x, Desk.A, "a");
        for (int n : new int[] {0, -1, -2, -256, Integer.MIN_VALUE}) {
            check.equal("recover(" + n + ")", x.recover(n), -1);
        }
        check.equal("writes", x.writes(), 0);
        check.equal("still down", x.latest(Desk.A), -1);
        check.equal("recover(1)", x.recover(1), 1);
    }

    private static void recoverWhileUp() {
        check.about("20 recover: -1 (refused) if the wiki is up");
        SharedPages x = new SharedPages(1);
        check.equal("recover of a new object", x.recover(1), -1);
        x.cut(0);
        check.equal("recover with a cut set", x.recover(1), -1);
        Desk.save(x, Desk.A, "a");
        x.recover(1);
        check.equal("recover when up again", x.recover(1), -1);
        check.equal("recover(0) when up", x.recover(0), -1);
        check.equal("recover(greatest) when up", x.recover(Integer.MAX_VALUE), -1);
        check.equal("writes", x.writes(), 1);
    }
}
