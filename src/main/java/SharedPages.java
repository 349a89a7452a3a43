/**
 * Pages that are written together: each with all its revisions, merged line by line when they are
 * saved over an older one, linked and included, shown as marked-up text, and written behind a
 * journal that may be cut off at any write.
 */
public final class SharedPages {
    private static final int TEXT_LIMIT = 40;
    private static final int LINE_LIMIT = TEXT_LIMIT + 1;
    private static final int PAGE_COUNT = 6;
    private static final int REVISION_LIMIT = 24;
    private static final int SHOWN_LIMIT = 200;
    private static final int NESTING_LIMIT = 4;
    private static final int HIGHEST_EVERY = 5;

    private static final char LINE_END = 10;
    private static final char FIRST_PRINTED = 32;
    private static final char LAST_PRINTED = 126;
    private static final char BLANK = ' ';
    private static final char DOLLAR = '$';

    private static final int REFUSED = -1;
    private static final int CONFLICT = -2;
    private static final int TOO_LONG = -3;
    private static final int NO_REVISION_LEFT = -4;
    private static final int CUT_OFF = -5;

    private final int every;
    private final Text draft = new Text();
    private final Text empty = new Text();
    private final Page[] pages = new Page[PAGE_COUNT];
    private final Matcher matcher = new Matcher();
    private final Merger merger = new Merger(matcher);
    private final Viewer viewer;
    private final Journal journal = new Journal();
    private int revisionsMade;
    private Revision pending;
    private int pendingPage;

    public SharedPages(int every) {
        this.every = Math.max(1, Math.min(HIGHEST_EVERY, every));
        Revision none = new Revision(empty, true, 0, 0);
        for (int page = 0; page < PAGE_COUNT; page++) {
            pages[page] = new Page(none);
        }
        viewer = new Viewer(pages);
    }

    public boolean type(char c) {
        return (c == LINE_END || isPrinted(c)) && draft.append(c);
    }

    public boolean put(int line, char c) {
        return draft.hasLine(line) && isPrinted(c) && draft.insert(draft.lineEnd(line), c);
    }

    public boolean drop(int line) {
        if (!draft.hasLine(line)) {
            return false;
        }
        draft.takeOut(line);
        return true;
    }

    public void clear() {
        draft.makeEmpty();
    }

    public int length() {
        return draft.count();
    }

    public int at(int k) {
        return k < 0 || k >= draft.count() ? -1 : draft.code(k);
    }

    public int save(int page, int base) {
        if (!isUsable(page) || base < 0 || base > pages[page].newestNumber()) {
            return REFUSED;
        }
        if (revisionsMade >= REVISION_LIMIT) {
            return NO_REVISION_LEFT;
        }
        Page target = pages[page];
        if (base == target.newestNumber()) {
            return makeRevision(page, withText(target, new Text(draft)));
        }
        int outcome = merger.merge(target.revision(base).text, target.newest().text, draft);
        if (outcome < 0) {
            return outcome;
        }
        return makeRevision(page, withText(target, new Text(merger.merged())));
    }

    public int revert(int page, int revision) {
        if (!hasRevision(page, revision) || pages[page].revision(revision).gone) {
            return REFUSED;
        }
        if (revisionsMade >= REVISION_LIMIT) {
            return NO_REVISION_LEFT;
        }
        // A revision's text never changes, so both revisions may hold the same one.
        return makeRevision(page, withText(pages[page], pages[page].revision(revision).text));
    }

    public int remove(int page) {
        if (!there(page)) {
            return REFUSED;
        }
        if (revisionsMade >= REVISION_LIMIT) {
            return NO_REVISION_LEFT;
        }
        return makeRevision(page, new Revision(empty, true, 0, 0));
    }

    public int load(int page, int revision) {
        if (!hasRevision(page, revision)) {
            return REFUSED;
        }
        draft.copyFrom(pages[page].revision(revision).text);
        return pages[page].revision(revision).steps;
    }

    public int latest(int page) {
        return isUsable(page) ? pages[page].newestNumber() : REFUSED;
    }

    public boolean there(int page) {
        return isUsable(page) && pages[page].isThere();
    }

    public int size(int page, int revision) {
        return hasRevision(page, revision) ? pages[page].revision(revision).space : REFUSED;
    }

    public int links(int page) {
        return isUsable(page) ? viewer.linksOf(page) : REFUSED;
    }

    public int backlinks(int page) {
        return isUsable(page) ? viewer.pagesLinkingTo(page) : REFUSED;
    }

    public int show(int page) {
        return there(page) ? viewer.view(page) : REFUSED;
    }

    public int shown(int k) {
        return viewer.viewed(k);
    }

    public boolean cut(int k) {
        if (k < 0 || journal.isDown()) {
            return false;
        }
        journal.cutNextAfter(k);
        return true;
    }

    public int recover(int n) {
        if (n < 1 || !journal.isDown()) {
            return REFUSED;
        }
        int done = journal.recoverWith(n);
        if (!journal.isDown()) {
            endPending();
        }
        return done;
    }

    public int writes() {
        return journal.writesMade();
    }

    private static boolean isPrinted(char c) {
        return c >= FIRST_PRINTED && c <= LAST_PRINTED;
    }

    /** What the page with this letter counts in a sum of pages: 0 if there is no such page. */
    private static int pageBit(char letter) {
        int page = letter - 'A';
        return page >= 0 && page < PAGE_COUNT ? 1 << page : 0;
    }

    private boolean isUsable(int page) {
        return page >= 0 && page < PAGE_COUNT && !journal.isDown();
    }

    private boolean hasRevision(int page, int number) {
        return isUsable(page) && number >= 1 && number <= pages[page].newestNumber();
    }

    private Revision withText(Page page, Text text) {
        Revision before = page.newest();
        if (page.newestNumber() % every == 0 || before.gone) {
            return new Revision(text, false, text.count(), 0);
        }
        return new Revision(text, false, matcher.deltaSpace(before.text, text), before.steps + 1);
    }

    private int makeRevision(int page, Revision revision) {
        if (!journal.carryOut(revision.space)) {
            pending = revision;
            pendingPage = page;
            return CUT_OFF;
        }
        return keep(page, revision);
    }

    private int keep(int page, Revision revision) {
        revisionsMade++;
        return pages[page].append(revision);
    }

    private void endPending() {
        if (pending != null && journal.wasClosed()) {
            keep(pendingPage, pending);
        }
        pending = null;
    }

    /** At most forty characters, and where their lines begin. */
    private static final class Text {
        private final char[] codes = new char[TEXT_LIMIT];
        // One entry more than there can be lines: the last one is where a next line would begin.
        private final int[] starts = new int[LINE_LIMIT + 1];
        private int count;
        private int lines;

        Text() {
            findLines();
        }

        Text(Text other) {
            copyFrom(other);
        }

        int count() {
            return count;
        }

        char code(int k) {
            return codes[k];
        }

        int lineCount() {
            return lines;
        }

        boolean hasLine(int line) {
            return line >= 0 && line < lines;
        }

        int lineStart(int line) {
            return starts[line];
        }

        int lineEnd(int line) {
            return starts[line + 1] - 1;
        }

        int lineLength(int line) {
            return starts[line + 1] - 1 - starts[line];
        }

        boolean append(char c) {
            if (count >= TEXT_LIMIT) {
                return false;
            }
            codes[count] = c;
            count++;
            if (c == LINE_END) {
                starts[lines] = count;
                lines++;
            }
            starts[lines] = count + 1;
            return true;
        }

        boolean insert(int place, char c) {
            if (count >= TEXT_LIMIT) {
                return false;
            }
            System.arraycopy(codes, place, codes, place + 1, count - place);
            codes[place] = c;
            count++;
            findLines();
            return true;
        }

        void takeOut(int line) {
            boolean last = line == lines - 1;
            int from = last && line > 0 ? starts[line] - 1 : starts[line];
            int to = last ? count : starts[line + 1];
            System.arraycopy(codes, to, codes, from, count - to);
            count -= to - from;
            findLines();
        }

        void makeEmpty() {
            count = 0;
            findLines();
        }

        void copyFrom(Text other) {
            System.arraycopy(other.codes, 0, codes, 0, other.count);
            count = other.count;
            findLines();
        }

        boolean sameLine(int line, Text other, int otherLine) {
            int length = lineLength(line);
            if (length != other.lineLength(otherLine)) {
                return false;
            }
            for (int k = 0; k < length; k++) {
                if (codes[starts[line] + k] != other.codes[other.starts[otherLine] + k]) {
                    return false;
                }
            }
            return true;
        }

        private void findLines() {
            lines = 1;
            for (int k = 0; k < count; k++) {
                if (codes[k] == LINE_END) {
                    starts[lines] = k + 1;
                    lines++;
                }
            }
            starts[lines] = count + 1;
        }
    }

    /** One revision as it was made; it never changes. */
    private static final class Revision {
        final Text text;
        final boolean gone;
        final int space;
        final int steps;

        Revision(Text text, boolean gone, int space, int steps) {
            this.text = text;
            this.gone = gone;
            this.space = space;
            this.steps = steps;
        }
    }

    /** The revisions of one page. */
    private static final class Page {
        private final Revision[] revisions = new Revision[REVISION_LIMIT + 1];
        private int newest;

        // Revision 0 is read as one that is gone: its text is empty, and its page is not there.
        Page(Revision none) {
            revisions[0] = none;
        }

        int newestNumber() {
            return newest;
        }

        Revision newest() {
            return revisions[newest];
        }

        Revision revision(int number) {
            return revisions[number];
        }

        boolean isThere() {
            return !revisions[newest].gone;
        }

        int append(Revision revision) {
            newest++;
            revisions[newest] = revision;
            return newest;
        }
    }

    /** Finds the common lines of two texts. */
    private static final class Matcher {
        private static final int NONE = -1;
        private static final int HUNK_SPACE = 3;
        private static final int ROW = LINE_LIMIT + 1;

        // m(i, j) of the document stands at i * ROW + j.
        private final int[] most = new int[ROW * ROW];
        private final int[] inNext = new int[LINE_LIMIT];

        /** Sets partners[i] to the line of y that line i of x is common with, or to NONE. */
        void match(Text x, Text y, int[] partners) {
            countMost(x, y);
            int j = 0;
            for (int i = 0; i < x.lineCount(); i++) {
                j = skipTo(x, i, y, j);
                if (j < y.lineCount() && x.sameLine(i, y, j)) {
                    partners[i] = j;
                    j++;
                } else {
                    partners[i] = NONE;
                }
            }
        }

        int deltaSpace(Text from, Text to) {
            match(from, to, inNext);
            int space = 0;
            int i = 0;
            int j = 0;
            for (int k = 0; k <= from.lineCount(); k++) {
                boolean end = k == from.lineCount();
                if (end || inNext[k] != NONE) {
                    int behind = end ? to.lineCount() : inNext[k];
                    if (k > i || behind > j) {
                        space += HUNK_SPACE + linesSpace(to, j, behind);
                    }
                    i = k + 1;
                    j = behind + 1;
                }
            }
            return space;
        }

        private void countMost(Text x, Text y) {
            for (int j = 0; j <= y.lineCount(); j++) {
                most[x.lineCount() * ROW + j] = 0;
            }
            for (int i = x.lineCount() - 1; i >= 0; i--) {
                most[i * ROW + y.lineCount()] = 0;
                for (int j = y.lineCount() - 1; j >= 0; j--) {
                    int here = i * ROW + j;
                    most[here] = x.sameLine(i, y, j)
                            ? most[here + ROW + 1] + 1
                            : Math.max(most[here + ROW], most[here + 1]);
                }
            }
        }

        /** The line of y, from j on, at which line i of x is common or is passed by. */
        private int skipTo(Text x, int i, Text y, int j) {
            for (int k = j; k < y.lineCount(); k++) {
                int here = i * ROW + k;
                if (x.sameLine(i, y, k) || most[here + ROW] >= most[here + 1]) {
                    return k;
                }
            }
            return y.lineCount();
        }

        private static int linesSpace(Text text, int from, int behind) {
            int space = 0;
            for (int line = from; line < behind; line++) {
                space += text.lineLength(line) + 1;
            }
            return space;
        }
    }

    /** Lines of a text from one number to before another. */
    private static final class Span {
        private Text text;
        private int from;
        private int behind;

        void begin(Text whole) {
            text = whole;
            from = 0;
            behind = 0;
        }

        void reachTo(int line) {
            behind = line;
        }

        void reachEnd() {
            behind = text.lineCount();
        }

        void goOnBehind() {
            from = behind + 1;
        }

        boolean same(Span other) {
            if (behind - from != other.behind - other.from) {
                return false;
            }
            for (int k = 0; k < behind - from; k++) {
                if (!text.sameLine(from + k, other.text, other.from + k)) {
                    return false;
                }
            }
            return true;
        }
    }

    /** Merges two texts over a third one. */
    private static final class Merger {
        private final Matcher matcher;
        private final int[] inFirst = new int[LINE_LIMIT];
        private final int[] inSecond = new int[LINE_LIMIT];
        private final Span old = new Span();
        private final Span first = new Span();
        private final Span second = new Span();
        private final Text merged = new Text();
        private boolean begun;
        private boolean tooLong;

        Merger(Matcher matcher) {
            this.matcher = matcher;
        }

        Text merged() {
            return merged;
        }

        /** Answers 0, CONFLICT or TOO_LONG; only with 0 is what merged() holds of use. */
        int merge(Text o, Text a, Text b) {
            begin(o, a, b);
            for (int line = 0; line < o.lineCount(); line++) {
                if (inFirst[line] >= 0 && inSecond[line] >= 0) {
                    old.reachTo(line);
                    first.reachTo(inFirst[line]);
                    second.reachTo(inSecond[line]);
                    if (!putOutPart()) {
                        return CONFLICT;
                    }
                    putOutLine(o, line);
                    old.goOnBehind();
                    first.goOnBehind();
                    second.goOnBehind();
                }
            }
            old.reachEnd();
            first.reachEnd();
            second.reachEnd();
            if (!putOutPart()) {
                return CONFLICT;
            }
            return tooLong ? TOO_LONG : 0;
        }

        private void begin(Text o, Text a, Text b) {
            matcher.match(o, a, inFirst);
            matcher.match(o, b, inSecond);
            old.begin(o);
            first.begin(a);
            second.begin(b);
            merged.makeEmpty();
            begun = false;
            tooLong = false;
        }

        private boolean putOutPart() {
            if (first.same(old)) {
                putOutLines(second);
                return true;
            }
            if (second.same(old) || first.same(second)) {
                putOutLines(first);
                return true;
            }
            return false;
        }

        private void putOutLines(Span span) {
            for (int line = span.from; line < span.behind; line++) {
                putOutLine(span.text, line);
            }
        }

        private void putOutLine(Text text, int line) {
            if (begun) {
                putOutCharacter(LINE_END);
            }
            begun = true;
            for (int k = text.lineStart(line); k < text.lineEnd(line); k++) {
                putOutCharacter(text.code(k));
            }
        }

        private void putOutCharacter(char c) {
            if (!merged.append(c)) {
                tooLong = true;
            }
        }
    }

    /** One line that is looked at: of a text, with its dollars filled, or in place of an include. */
    private static final class Line {
        private static final int LINK_LENGTH = 5;
        private static final int ITEM_MARK_LENGTH = 2;
        private static final int HIGHEST_LEVEL = 3;

        private final char[] codes = new char[TEXT_LIMIT];
        private int count;

        void take(Text text, int line, char filler) {
            int start = text.lineStart(line);
            count = text.lineLength(line);
            for (int k = 0; k < count; k++) {
                char c = text.code(start + k);
                codes[k] = c == DOLLAR ? filler : c;
            }
        }

        void becomeMark(char sign) {
            codes[0] = sign;
            codes[1] = includedLetter();
            count = 2;
        }

        int count() {
            return count;
        }

        char code(int k) {
            return codes[k];
        }

        boolean has(int k, char c) {
            return k < count && codes[k] == c;
        }

        boolean hasTwo(int k, char c) {
            return k + 1 < count && codes[k] == c && codes[k + 1] == c;
        }

        boolean isItem() {
            return has(0, '*') && has(1, BLANK);
        }

        /** How many of the first characters make it a heading: 0 if it is none. */
        int headingLevel() {
            int level = 0;
            while (level < HIGHEST_LEVEL && has(level, '=')) {
                level++;
            }
            return level;
        }

        boolean isInclude() {
            return (count == LINK_LENGTH || count == LINK_LENGTH + 1)
                    && hasTwo(0, '{') && hasLetter(2) && hasTwo(count - 2, '}');
        }

        char includedLetter() {
            return codes[2];
        }

        int includedPage() {
            return codes[2] - 'A';
        }

        // Filling dollars with dollars leaves them as they are.
        char includedFiller() {
            return count > LINK_LENGTH ? codes[3] : DOLLAR;
        }

        boolean isLink(int k) {
            return hasTwo(k, '[') && hasLetter(k + 2) && hasTwo(k + 3, ']');
        }

        private boolean hasLetter(int k) {
            return k < count && codes[k] >= 'A' && codes[k] <= 'Z';
        }
    }

    /** What is shown: blocks of marked-up lines, ended after 200 characters. */
    private static final class Screen {
        private static final int NO_BLOCK = 0;
        private static final int ITEMS = 1;
        private static final int PLAIN = 2;

        private final char[] codes = new char[SHOWN_LIMIT];
        private int count;
        private int block;
        private int pagesThere;

        void begin(int there) {
            count = 0;
            block = NO_BLOCK;
            pagesThere = there;
        }

        int count() {
            return count;
        }

        char code(int k) {
            return codes[k];
        }

        boolean isFull() {
            return count >= SHOWN_LIMIT;
        }

        void add(Line line) {
            int level = line.headingLevel();
            if (line.count() == 0) {
                endBlock();
            } else if (level > 0) {
                endBlock();
                writeHeadingMark("<h", level);
                addContent(line, level);
                writeHeadingMark("</h", level);
            } else if (line.isItem()) {
                beginItem();
                addContent(line, Line.ITEM_MARK_LENGTH);
                write("</li>");
            } else {
                beginPlain();
                addContent(line, 0);
            }
        }

        void endBlock() {
            if (block == ITEMS) {
                write("</ul>");
            } else if (block == PLAIN) {
                write("</p>");
            }
            block = NO_BLOCK;
        }

        private void writeHeadingMark(String opening, int level) {
            write(opening);
            writeCharacter((char) ('0' + level));
            writeCharacter('>');
        }

        private void beginItem() {
            if (block != ITEMS) {
                endBlock();
                write("<ul>");
                block = ITEMS;
            }
            write("<li>");
        }

        private void beginPlain() {
            if (block == PLAIN) {
                writeCharacter(BLANK);
            } else {
                endBlock();
                write("<p>");
                block = PLAIN;
            }
        }

        private void addContent(Line line, int from) {
            boolean bold = false;
            int k = from;
            while (k < line.count()) {
                if (line.hasTwo(k, '*')) {
                    write(bold ? "</b>" : "<b>");
                    bold = !bold;
                    k += 2;
                } else if (line.isLink(k)) {
                    writeLink(line.code(k + 2));
                    k += Line.LINK_LENGTH;
                } else {
                    writeEscaped(line.code(k));
                    k++;
                }
            }
            if (bold) {
                write("</b>");
            }
        }

        private void writeLink(char letter) {
            boolean there = (pagesThere & pageBit(letter)) != 0;
            write(there ? "<a>" : "<u>");
            writeCharacter(letter);
            write(there ? "</a>" : "</u>");
        }

        private void writeEscaped(char c) {
            if (c == '&') {
                write("&amp;");
            } else if (c == '<') {
                write("&lt;");
            } else if (c == '>') {
                write("&gt;");
            } else {
                writeCharacter(c);
            }
        }

        private void write(String text) {
            for (int k = 0; k < text.length() && count < SHOWN_LIMIT; k++) {
                codes[count] = text.charAt(k);
                count++;
            }
        }

        private void writeCharacter(char c) {
            if (count < SHOWN_LIMIT) {
                codes[count] = c;
                count++;
            }
        }
    }

    /** Looks at the pages' texts as they are now: what they link to and how they are shown. */
    private static final class Viewer {
        private static final char NO_INCLUDE = 0;
        private static final char EXPANDED = 1;

        private final Page[] pages;
        private final Line line = new Line();
        private final Screen screen = new Screen();
        private int pagesThere;

        Viewer(Page[] pages) {
            this.pages = pages;
        }

        // A page that is not there has the empty text here, and so no links.
        int linksOf(int page) {
            Text text = pages[page].newest().text;
            int found = 0;
            for (int i = 0; i < text.lineCount(); i++) {
                line.take(text, i, DOLLAR);
                found |= linksOfLine();
            }
            return found;
        }

        int pagesLinkingTo(int page) {
            int found = 0;
            for (int from = 0; from < PAGE_COUNT; from++) {
                if ((linksOf(from) & 1 << page) != 0) {
                    found |= 1 << from;
                }
            }
            return found;
        }

        int view(int page) {
            pagesThere = findPagesThere();
            screen.begin(pagesThere);
            expand(page, DOLLAR, 0, 1);
            screen.endBlock();
            return screen.count();
        }

        int viewed(int k) {
            return k < 0 || k >= screen.count() ? -1 : screen.code(k);
        }

        private int linksOfLine() {
            if (line.isInclude()) {
                return pageBit(line.includedLetter());
            }
            int found = 0;
            for (int k = 0; k < line.count(); k++) {
                if (line.isLink(k)) {
                    found |= pageBit(line.code(k + 2));
                }
            }
            return found;
        }

        private int findPagesThere() {
            int found = 0;
            for (int page = 0; page < PAGE_COUNT; page++) {
                if (pages[page].isThere()) {
                    found |= 1 << page;
                }
            }
            return found;
        }

        /** Depth is how many pages the expansion stands in, this one too; around are the others. */
        private void expand(int page, char filler, int around, int depth) {
            Text text = pages[page].newest().text;
            int within = around | 1 << page;
            // Behind a full screen nothing can be seen any more, and nested includes are many.
            for (int i = 0; i < text.lineCount() && !screen.isFull(); i++) {
                line.take(text, i, filler);
                char mark = markFor(within, depth);
                if (mark == EXPANDED) {
                    expand(line.includedPage(), line.includedFiller(), within, depth + 1);
                } else {
                    if (mark != NO_INCLUDE) {
                        line.becomeMark(mark);
                    }
                    screen.add(line);
                }
            }
        }

        /** What stands in place of the line if it is an include: a mark, or the page expanded. */
        private char markFor(int within, int depth) {
            if (!line.isInclude()) {
                return NO_INCLUDE;
            }
            int bit = pageBit(line.includedLetter());
            if ((pagesThere & bit) == 0) {
                return '?';
            }
            if ((within & bit) != 0) {
                return '!';
            }
            return depth >= NESTING_LIMIT ? '^' : EXPANDED;
        }
    }

    /** Counts the writes of each work, cuts one off, and recovers from that. */
    private static final class Journal {
        private static final int BLOCK = 8;
        private static final int NO_CUT = -1;

        private int made;
        private int cutAfter = NO_CUT;
        private boolean down;
        private boolean closed;
        private int needed;

        int writesMade() {
            return made;
        }

        boolean isDown() {
            return down;
        }

        /** Whether the work that was cut off had closed the journal, so that recovering makes it. */
        boolean wasClosed() {
            return closed;
        }

        void cutNextAfter(int k) {
            cutAfter = k;
        }

        /** Makes the writes of a work; false if it was cut off. */
        boolean carryOut(int space) {
            int blocks = (space + BLOCK - 1) / BLOCK;
            int all = 2 * blocks + 2;
            int limit = cutAfter;
            cutAfter = NO_CUT;
            if (limit == NO_CUT || limit >= all) {
                made += all;
                return true;
            }
            made += limit;
            down = true;
            closed = limit > blocks;
            needed = closed ? blocks + 1 : 1;
            return false;
        }

        /** Recovers if n writes are enough; answers how many it made. */
        int recoverWith(int n) {
            int done = Math.min(n, needed);
            made += done;
            down = done < needed;
            return done;
        }
    }
}
