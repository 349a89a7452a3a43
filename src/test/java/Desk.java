/** Longer pieces of work at a SharedPages, made of its calls. */
final class Desk {
    static final int A = 0;
    static final int B = 1;
    static final int C = 2;
    static final int D = 3;
    static final int E = 4;
    static final int F = 5;
    static final int PAGES = 6;

    /** Numbers that are no page's, also if bits are lost, a rest is taken or a letter is meant. */
    static final int[] NO_PAGES = {
        -1, 6, 7, -2, -5, -6, -7, 12, 24, 31, 32, 37, 64, 65, 70, 255, 256, 261, 65536, 1 << 30,
        Integer.MIN_VALUE, Integer.MIN_VALUE + 5, Integer.MAX_VALUE};

    private Desk() {
    }

    static void write(SharedPages x, String text) {
        x.clear();
        for (int k = 0; k < text.length(); k++) {
            x.type(text.charAt(k));
        }
    }

    static String draft(SharedPages x) {
        StringBuilder text = new StringBuilder();
        int count = x.length();
        for (int k = 0; k < count; k++) {
            text.append((char) x.at(k));
        }
        return text.toString();
    }

    /** Saves a text over the latest revision. */
    static int save(SharedPages x, int page, String text) {
        return save(x, page, x.latest(page), text);
    }

    static int save(SharedPages x, int page, int base, String text) {
        write(x, text);
        return x.save(page, base);
    }

    /** Saves the draft over the latest revision this many times. */
    static void saveAgain(SharedPages x, int page, int times) {
        int latest = x.latest(page);
        for (int k = 0; k < times; k++) {
            x.save(page, latest + k);
        }
    }

    static String text(SharedPages x, int page, int revision) {
        x.load(page, revision);
        return draft(x);
    }

    static String shown(SharedPages x, int page) {
        x.show(page);
        return screen(x);
    }

    static String screen(SharedPages x) {
        StringBuilder text = new StringBuilder();
        int code = x.shown(0);
        for (int k = 1; k <= 200 && code >= 0; k++) {
            text.append((char) code);
            code = x.shown(k);
        }
        return text.toString();
    }
}
