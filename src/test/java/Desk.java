/** Longer pieces of work at a SharedPages, made of its calls. */
final class Desk {
    static final int A = 0;
    static final int B = 1;
    static final int C = 2;
    static final int D = 3;
    static final int E = 4;
    static final int F = 5;

    private Desk() {
    }

    static void write(SharedPages x, String text) {
        x.clear();
        for (int k = 0; k < text.length(); k++) {
            x.type(text.charAt(k));
        }
    }

    static String draft(SharedPages x) {
        StringBuilder text = new StringBuilder();
        for (int k = 0; k < x.length(); k++) {
            text.append((char) x.at(k));
        }
        return text.toString();
    }

    /** Saves a text over the latest revision. */
    static int save(SharedPages x, int page, String text) {
        return save(x, page, x.latest(page), text);
    }

    static int save(SharedPages x, int page, int base, String text) {
        write(x, text);
        return x.save(page, base);
    }

    static String text(SharedPages x, int page, int revision) {
        x.load(page, revision);
        return draft(x);
    }

    static String shown(SharedPages x, int page) {
        int count = x.show(page);
        StringBuilder text = new StringBuilder();
        for (int k = 0; k < count; k++) {
            text.append((char) x.shown(k));
        }
        return text.toString();
    }
}
