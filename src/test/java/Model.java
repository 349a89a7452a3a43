import java.util.ArrayList;
import java.util.Arrays;
import java.util.List;

/** The document's terms once more, as near to its words as can be, for comparing answers. */
final class Model {
    private record Revision(String text, boolean gone) {
    }

    private record Work(int page, Revision revision, int blocks, int after) {
        boolean closed() {
            return after > blocks;
        }
    }

    private final int every;
    private final List<List<Revision>> pages = new ArrayList<>();
    private String draft = "";
    private String shown = "";
    private int writes;
    private Integer cut;
    private Work down;

    Model(int every) {
        this.every = every < 1 ? 1 : every > 5 ? 5 : every;
        for (int page = 0; page < 6; page++) {
            pages.add(new ArrayList<>());
        }
    }

    boolean type(char c) {
        if (c != 10 && (c < 32 || c > 126) || draft.length() == 40) {
            return false;
        }
        draft += c;
        return true;
    }

    boolean put(int line, char c) {
        List<String> lines = lines(draft);
        if (line < 0 || line >= lines.size() || c < 32 || c > 126 || draft.length() == 40) {
            return false;
        }
        lines.set(line, lines.get(line) + c);
        draft = String.join("\n", lines);
        return true;
    }

    boolean drop(int line) {
        List<String> lines = lines(draft);
        if (line < 0 || line >= lines.size()) {
            return false;
        }
        lines.remove(line);
        draft = String.join("\n", lines);
        return true;
    }

    void clear() {
        draft = "";
    }

    int length() {
        return draft.length();
    }

    int at(int k) {
        return k >= 0 && k < draft.length() ? draft.charAt(k) : -1;
    }

    int save(int page, int base) {
        if (!usable(page) || base < 0 || base > pages.get(page).size()) {
            return -1;
        }
        if (made() == 24) {
            return -4;
        }
        if (base == pages.get(page).size()) {
            return make(page, new Revision(draft, false));
        }
        List<String> merged = merge(lines(textOf(page, base)), lines(textOf(page, pages.get(page).size())), lines(draft));
        if (merged == null) {
            return -2;
        }
        String text = String.join("\n", merged);
        return text.length() > 40 ? -3 : make(page, new Revision(text, false));
    }

    int revert(int page, int revision) {
        if (!has(page, revision) || pages.get(page).get(revision - 1).gone) {
            return -1;
        }
        return made() == 24 ? -4 : make(page, pages.get(page).get(revision - 1));
    }

    int remove(int page) {
        if (!there(page)) {
            return -1;
        }
        return made() == 24 ? -4 : make(page, new Revision("", true));
    }

    int load(int page, int revision) {
        if (!has(page, revision)) {
            return -1;
        }
        draft = textOf(page, revision);
        return steps(page, revision);
    }

    int latest(int page) {
        return usable(page) ? pages.get(page).size() : -1;
    }

    boolean there(int page) {
        return usable(page) && isThere(page);
    }

    int size(int page, int revision) {
        return has(page, revision) ? sizeOf(page, revision) : -1;
    }

    int links(int page) {
        if (!usable(page)) {
            return -1;
        }
        int sum = 0;
        for (char letter = 'A'; letter <= 'F'; letter++) {
            if (linksTo(page, letter)) {
                sum += 1 << (letter - 'A');
            }
        }
        return sum;
    }

    int backlinks(int page) {
        if (!usable(page)) {
            return -1;
        }
        int sum = 0;
        for (int from = 0; from < 6; from++) {
            if (linksTo(from, (char) ('A' + page))) {
                sum += 1 << from;
            }
        }
        return sum;
    }

    int show(int page) {
        if (!there(page)) {
            return -1;
        }
        String all = markUp(expansion(page, textOf(page, pages.get(page).size()), List.of(page)));
        shown = all.substring(0, Math.min(200, all.length()));
        return shown.length();
    }

    int shown(int k) {
        return k >= 0 && k < shown.length() ? shown.charAt(k) : -1;
    }

    boolean cut(int k) {
        if (k < 0 || down != null) {
            return false;
        }
        cut = k;
        return true;
    }

    int recover(int n) {
        if (down == null || n < 1) {
            return -1;
        }
        int needed = down.closed() ? down.blocks + 1 : 1;
        if (n < needed) {
            writes += n;
            return n;
        }
        writes += needed;
        if (down.closed()) {
            pages.get(down.page).add(down.revision);
        }
        down = null;
        return needed;
    }

    int writes() {
        return writes;
    }

    private boolean usable(int page) {
        return down == null && page >= 0 && page <= 5;
    }

    private boolean has(int page, int revision) {
        return usable(page) && revision >= 1 && revision <= pages.get(page).size();
    }

    private int made() {
        return pages.stream().mapToInt(List::size).sum();
    }

    private boolean isThere(int page) {
        List<Revision> all = pages.get(page);
        return !all.isEmpty() && !all.get(all.size() - 1).gone;
    }

    private String textOf(int page, int revision) {
        return revision == 0 ? "" : pages.get(page).get(revision - 1).text;
    }

    private static List<String> lines(String text) {
        return new ArrayList<>(Arrays.asList(text.split("\n", -1)));
    }

    private int make(int page, Revision revision) {
        pages.get(page).add(revision);
        int number = pages.get(page).size();
        int blocks = (sizeOf(page, number) + 7) / 8;
        Integer after = cut;
        cut = null;
        if (after != null && after < 2 * blocks + 2) {
            pages.get(page).remove(number - 1);
            down = new Work(page, revision, blocks, after);
            writes += after;
            return -5;
        }
        writes += 2 * blocks + 2;
        return number;
    }

    private boolean isDelta(int page, int n) {
        return !pages.get(page).get(n - 1).gone && (n - 1) % every != 0 && !pages.get(page).get(n - 2).gone;
    }

    private int steps(int page, int n) {
        return isDelta(page, n) ? steps(page, n - 1) + 1 : 0;
    }

    private int sizeOf(int page, int n) {
        if (!isDelta(page, n)) {
            return textOf(page, n).length();
        }
        List<String> x = lines(textOf(page, n - 1));
        List<String> y = lines(textOf(page, n));
        List<int[]> common = common(x, y);
        common.add(new int[] {x.size(), y.size()});
        int size = 0;
        int i = 0;
        int j = 0;
        for (int[] pair : common) {
            if (pair[0] > i || pair[1] > j) {
                size += 3;
            }
            for (String line : y.subList(j, pair[1])) {
                size += line.length() + 1;
            }
            i = pair[0] + 1;
            j = pair[1] + 1;
        }
        return size;
    }

    private static List<int[]> common(List<String> x, List<String> y) {
        int[][] m = new int[x.size() + 1][y.size() + 1];
        for (int i = x.size() - 1; i >= 0; i--) {
            for (int j = y.size() - 1; j >= 0; j--) {
                int taken = x.get(i).equals(y.get(j)) ? 1 + m[i + 1][j + 1] : 0;
                m[i][j] = Math.max(taken, Math.max(m[i + 1][j], m[i][j + 1]));
            }
        }
        List<int[]> pairs = new ArrayList<>();
        int i = 0;
        int j = 0;
        while (i < x.size() && j < y.size()) {
            if (x.get(i).equals(y.get(j))) {
                pairs.add(new int[] {i++, j++});
            } else if (m[i + 1][j] >= m[i][j + 1]) {
                i++;
            } else {
                j++;
            }
        }
        return pairs;
    }

    private static int partner(List<int[]> pairs, int line) {
        for (int[] pair : pairs) {
            if (pair[0] == line) {
                return pair[1];
            }
        }
        return -1;
    }

    /** The merged lines, or null if there is a conflict. */
    private static List<String> merge(List<String> old, List<String> first, List<String> second) {
        List<int[]> withFirst = common(old, first);
        List<int[]> withSecond = common(old, second);
        List<String> out = new ArrayList<>();
        int o = 0;
        int a = 0;
        int b = 0;
        while (o < old.size() || a < first.size() || b < second.size()) {
            if (o < old.size() && a < first.size() && b < second.size()
                    && partner(withFirst, o) == a && partner(withSecond, o) == b) {
                out.add(old.get(o));
                o++;
                a++;
                b++;
                continue;
            }
            int nextO = o;
            while (nextO < old.size() && (partner(withFirst, nextO) < 0 || partner(withSecond, nextO) < 0)) {
                nextO++;
            }
            int nextA = nextO < old.size() ? partner(withFirst, nextO) : first.size();
            int nextB = nextO < old.size() ? partner(withSecond, nextO) : second.size();
            List<String> ofO = old.subList(o, nextO);
            List<String> ofA = first.subList(a, nextA);
            List<String> ofB = second.subList(b, nextB);
            if (ofA.equals(ofO)) {
                out.addAll(ofB);
            } else if (ofB.equals(ofO) || ofA.equals(ofB)) {
                out.addAll(ofA);
            } else {
                return null;
            }
            o = nextO;
            a = nextA;
            b = nextB;
        }
        return out;
    }

    private List<String> expansion(int page, String text, List<Integer> within) {
        List<String> out = new ArrayList<>();
        for (String line : lines(text)) {
            if (!line.matches("\\{\\{[A-Z].?\\}\\}")) {
                out.add(line);
                continue;
            }
            int included = line.charAt(2) - 'A';
            if (included > 5 || !isThere(included)) {
                out.add("?" + line.charAt(2));
            } else if (within.contains(included)) {
                out.add("!" + line.charAt(2));
            } else if (within.size() == 4) {
                out.add("^" + line.charAt(2));
            } else {
                String inner = textOf(included, pages.get(included).size());
                if (line.length() == 6) {
                    inner = inner.replace('$', line.charAt(3));
                }
                List<Integer> more = new ArrayList<>(within);
                more.add(included);
                out.addAll(expansion(included, inner, more));
            }
        }
        return out;
    }

    private String markUp(List<String> lines) {
        StringBuilder out = new StringBuilder();
        int k = 0;
        while (k < lines.size()) {
            String line = lines.get(k);
            if (line.startsWith("=")) {
                int level = line.startsWith("===") ? 3 : line.startsWith("==") ? 2 : 1;
                out.append("<h" + level + ">" + content(line.substring(level)) + "</h" + level + ">");
                k++;
            } else if (line.startsWith("* ")) {
                out.append("<ul>");
                for (; k < lines.size() && lines.get(k).startsWith("* "); k++) {
                    out.append("<li>" + content(lines.get(k).substring(2)) + "</li>");
                }
                out.append("</ul>");
            } else if (!line.isEmpty()) {
                List<String> contents = new ArrayList<>();
                for (; k < lines.size() && isPlain(lines.get(k)); k++) {
                    contents.add(content(lines.get(k)));
                }
                out.append("<p>" + String.join(" ", contents) + "</p>");
            } else {
                k++;
            }
        }
        return out.toString();
    }

    private static boolean isPlain(String line) {
        return !line.isEmpty() && !line.startsWith("=") && !line.startsWith("* ");
    }

    private String content(String text) {
        StringBuilder out = new StringBuilder();
        boolean open = false;
        String rest = text;
        while (!rest.isEmpty()) {
            int used = 1;
            if (rest.startsWith("**")) {
                out.append(open ? "</b>" : "<b>");
                open = !open;
                used = 2;
            } else if (rest.matches("\\[\\[[A-Z]\\]\\].*")) {
                char letter = rest.charAt(2);
                String tag = letter <= 'F' && isThere(letter - 'A') ? "a" : "u";
                out.append("<" + tag + ">" + letter + "</" + tag + ">");
                used = 5;
            } else {
                out.append(switch (rest.charAt(0)) {
                    case '&' -> "&amp;";
                    case '<' -> "&lt;";
                    case '>' -> "&gt;";
                    default -> rest.substring(0, 1);
                });
            }
            rest = rest.substring(used);
        }
        return out + (open ? "</b>" : "");
    }

    private boolean linksTo(int page, char letter) {
        if (!isThere(page)) {
            return false;
        }
        for (String line : lines(textOf(page, pages.get(page).size()))) {
            boolean include = line.matches("\\{\\{[A-Z].?\\}\\}");
            if (include ? line.charAt(2) == letter : line.contains("[[" + letter + "]]")) {
                return true;
            }
        }
        return false;
    }
}
