/** "An object is used for at most 512 calls after it has been made": the last of them answer as the first. */
final class LongUseTest {
    private static final int CALLS = 512;
    private static final Check check = new Check();

    public static void main(String[] args) {
        check.about("What it is: An object is used for at most 512 calls");
        typing();
        puttingAndDropping();
        merging();
        showing();
        cuttingAndRecovering();
        recoveringForLong();
        check.end();
    }

    private static void typing() {
        SharedPages x = new SharedPages(3);
        for (int call = 1; call < CALLS; call++) {
            check.equal("type, call " + call, x.type('a'), call <= 40);
        }
        check.equal("length, the last call", x.length(), 40);
    }

    private static void puttingAndDropping() {
        SharedPages x = new SharedPages(3);
        for (int call = 1; call < CALLS - 1; call += 2) {
            check.equal("put, call " + call, x.put(0, 'a'), true);
            check.equal("drop, call " + call, x.drop(0), true);
        }
        check.equal("length", x.length(), 0);
        check.equal("put, the last call", x.put(0, 'a'), true);
    }

    /** Refused merges with the most lines that texts can have. */
    private static void merging() {
        SharedPages x = new SharedPages(3);
        Desk.save(x, Desk.A, 0, "\n".repeat(40));
        Desk.save(x, Desk.A, 1, "\n".repeat(20) + "x" + "\n".repeat(19));
        Desk.write(x, "\n".repeat(20) + "y" + "\n".repeat(19));
        for (int call = 3 * 41 + 2 + 1; call < CALLS; call++) {
            check.equal("save, call " + call, x.save(Desk.A, 1), -2);
        }
        check.equal("save, the last call", x.save(Desk.A, 2), 3);
    }

    private static void showing() {
        SharedPages x = new SharedPages(3);
        Desk.save(x, Desk.A, 0, "{{B}}\n{{B}}\n{{B}}\n{{B}}\n{{B}}\n{{B}}");
        Desk.save(x, Desk.B, 0, "{{C}}\n{{C}}\n{{C}}\n{{C}}\n{{C}}\n{{C}}");
        Desk.save(x, Desk.C, 0, "{{D}}\n{{D}}\n{{D}}\n{{D}}\n{{D}}\n{{D}}");
        Desk.save(x, Desk.D, 0, "\n".repeat(39) + "x");
        for (int call = 3 * 37 + 42 + 1; call < CALLS; call++) {
            check.equal("show, call " + call, x.show(Desk.A), 200);
        }
        check.equal("shown, the last call", x.shown(199), "<p>x</p>".charAt(199 % 8));
    }

    private static void cuttingAndRecovering() {
        SharedPages x = new SharedPages(3);
        for (int call = 1; call < CALLS - 2; call += 3) {
            check.equal("cut, call " + call, x.cut(0), true);
            check.equal("save, call " + call, x.save(Desk.A, 0), -5);
            check.equal("recover, call " + call, x.recover(1), 1);
        }
        check.equal("writes", x.writes(), 170);
        check.equal("save, the last call", x.save(Desk.A, 0), 1);
    }

    private static void recoveringForLong() {
        SharedPages x = new SharedPages(1);
        Desk.write(x, Scenes.FORTY);
        x.cut(11);
        x.save(Desk.A, 0);
        for (int call = 44; call < CALLS - 2; call++) {
            check.equal("recover, call " + call, x.recover(5), 5);
        }
        check.equal("writes", x.writes(), 11 + 5 * (CALLS - 2 - 44));
        check.equal("recover", x.recover(6), 6);
        check.equal("latest, the last call", x.latest(Desk.A), 1);
    }
}
