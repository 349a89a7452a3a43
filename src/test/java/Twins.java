import java.util.List;
import java.util.function.Function;
import java.util.function.Supplier;

/** Shows that a refused call changes nothing: all later answers are the same with it and without it. */
final class Twins {
    private static final int ENOUGH = 100;

    /** Each look has a pair of objects of its own, for some looks change them. */
    private static final List<Function<SharedPages, String>> LOOKS = List.of(
            Twins::draft, Twins::draftLines, Desk::screen, Twins::pages, Twins::texts,
            Twins::nextWork, Twins::room, Twins::recovering, Twins::recovered);

    private final Check check;

    Twins(Check check) {
        this.check = check;
    }

    void refuses(String what, Supplier<SharedPages> scene, Function<SharedPages, Object> call, Object due) {
        for (Function<SharedPages, String> look : LOOKS) {
            SharedPages with = scene.get();
            SharedPages without = scene.get();
            check.equal(what, String.valueOf(call.apply(with)), String.valueOf(due));
            check.equal("what stands after " + what, look.apply(with), look.apply(without));
        }
    }

    private static String draft(SharedPages x) {
        return x.length() + " " + Desk.draft(x) + x.at(x.length()) + x.writes();
    }

    private static String draftLines(SharedPages x) {
        StringBuilder seen = new StringBuilder();
        for (int line = 41; line >= 0; line--) {
            seen.append(x.put(line, 'z')).append(x.drop(line)).append(x.length()).append(' ');
        }
        return seen.toString();
    }

    private static String pages(SharedPages x) {
        StringBuilder seen = new StringBuilder();
        for (int page = 0; page < Desk.PAGES; page++) {
            int latest = x.latest(page);
            seen.append(latest).append(x.there(page)).append(x.links(page)).append(' ').append(x.backlinks(page));
            for (int n = 1; n <= latest; n++) {
                seen.append(' ').append(x.size(page, n));
            }
            seen.append('\n');
        }
        return seen.append(x.writes()).toString();
    }

    private static String texts(SharedPages x) {
        StringBuilder seen = new StringBuilder();
        for (int page = 0; page < Desk.PAGES; page++) {
            int latest = x.latest(page);
            for (int n = 1; n <= latest; n++) {
                seen.append(x.load(page, n)).append(Desk.draft(x)).append('\n');
            }
        }
        return seen.toString();
    }

    /** Tells a cut that is set, and after how many writes. */
    private static String nextWork(SharedPages x) {
        StringBuilder seen = new StringBuilder();
        Desk.write(x, "0123456789\n123456");
        seen.append(x.writes()).append(' ').append(x.save(Desk.C, Math.max(0, x.latest(Desk.C))));
        return seen.append(' ').append(x.writes()).append(recovered(x)).toString();
    }

    /** Tells how many revisions were made: how many more can be. */
    private static String room(SharedPages x) {
        x.recover(ENOUGH);
        x.clear();
        int answer = x.save(Desk.E, 0);
        int more = 0;
        while (answer != -4 && more < ENOUGH) {
            x.recover(ENOUGH);
            more++;
            answer = x.save(Desk.E, x.latest(Desk.E));
        }
        return "room for " + more;
    }

    private static String recovering(SharedPages x) {
        StringBuilder seen = new StringBuilder();
        for (int n = 1; n <= 6; n++) {
            seen.append(x.recover(n)).append(' ').append(x.writes()).append(' ').append(x.latest(Desk.A)).append('\n');
        }
        return seen.toString();
    }

    private static String recovered(SharedPages x) {
        return x.recover(ENOUGH) + "\n" + pages(x) + "\n" + texts(x);
    }
}
