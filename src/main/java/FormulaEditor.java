/**
 * An editor for formulas in two dimensions. See ../shared/DOC.md for what it promises and
 * README.md for how it is used.
 */
public final class FormulaEditor {
    public static final int NONE = -9;

    private static final int FRACTION = 1;
    private static final int SUPERSCRIPT = 2;
    private static final int SUBSCRIPT = 3;
    private static final int ROOT = 4;
    private static final int PARENTHESES = 5;
    /** The mark between the two slots of a fraction. */
    private static final int MIDDLE = 6;
    /** The mark behind the last slot of a structure is this plus its kind. */
    private static final int CLOSING = 10;
    /** Stands for a mark that does not exist. */
    private static final int NOTHING = 0;

    private static final int MOST_ITEMS = 60;
    private static final int MOST_LEVEL = 5;
    private static final int MOST_TEXT = 120;
    private static final int MOST_CODE = 255;
    private static final int MOST_REMEMBERED = 14;
    private static final int MOST_STEPS = 200;
    private static final int MOST_COMMANDS = 4;
    private static final int MOST_ROUNDS = 60;
    /** A fraction is the item with the most marks: three. */
    private static final int MOST_MARKS = 3 * MOST_ITEMS;
    /** A fraction is the item with the most signs of its own: two pairs of brackets and the /. */
    private static final int MOST_LINEAR = 5 * MOST_ITEMS;
    /** No character of a text makes more than three marks: / makes those of a fraction. */
    private static final int MOST_READ = 3 * MOST_TEXT;
    private static final int BLANK = ' ';
    /** The symbol with the least code; it is greater than every mark of a structure. */
    private static final int LEAST_SYMBOL = '*';

    private final Formula now = new Formula();
    /** Scripts and simulations run here, so that the formula itself stays as it is. */
    private final Formula trial = new Formula();
    private final Keep firstKeep = new Keep();
    private final Keep secondKeep = new Keep();
    private final History history = new History();
    private final Marks clipboard = new Marks(MOST_MARKS);
    private final Reader reader = new Reader();
    private final Writer writer = new Writer();
    private final Picture picture = new Picture();

    public FormulaEditor() {
    }

    // ---- text

    public int append(int c) throws IllegalArgumentException, IllegalStateException {
        if (c < 0 || c > MOST_CODE) {
            throw new IllegalArgumentException("not a character code");
        }
        if (!reader.hasRoom()) {
            throw new IllegalStateException("the text is full");
        }
        reader.addSign(c);
        return reader.length;
    }

    public int clearText() {
        int before = reader.length;
        reader.length = 0;
        return before;
    }

    public int errorPosition() {
        return reader.firstError();
    }

    public int load() throws IllegalStateException {
        if (reader.firstError() != NONE) {
            throw new IllegalStateException("not a linear text");
        }
        Marks read = reader.result;
        if (read.countItems(0, read.size) > MOST_ITEMS || read.depth(0, read.size) > MOST_LEVEL) {
            throw new IllegalStateException("too large");
        }
        now.take(read, 0, read.size);
        now.putCaret(0);
        history.forget();
        firstKeep.filled = false;
        secondKeep.filled = false;
        return now.allItems();
    }

    // ---- what there is

    public int about(int what) throws IllegalArgumentException {
        switch (what) {
            case 0:
                return now.allItems();
            case 1:
                return now.size + 1;
            case 2:
                return now.caret;
            case 3:
                return now.depth(0, now.size);
            case 4:
                return now.emptySlots();
            case 5:
                return clipboard.countItems(0, clipboard.size);
            default:
                throw new IllegalArgumentException("what is 0 to 5");
        }
    }

    public int place(int place, int what) throws IndexOutOfBoundsException, IllegalArgumentException {
        if (!now.hasPlace(place)) {
            throw new IndexOutOfBoundsException("no such place");
        }
        int row = now.rowStart(place);
        switch (what) {
            case 0:
                return now.levelOf(place);
            case 1:
                return now.rowItems(row, place);
            case 2:
                return now.rowItems(row, now.rowEnd(place));
            case 3:
                return now.kindAround(row);
            case 4:
                return now.mark(row - 1) == MIDDLE ? 1 : 0;
            case 5:
                return startsItem(now.mark(place)) ? now.mark(place) : NONE;
            default:
                throw new IllegalArgumentException("what is 0 to 5");
        }
    }

    public int selection(int what) throws IllegalArgumentException {
        switch (what) {
            case 0:
                return now.selectedOfRow();
            case 1:
                return now.selectedInAll();
            case 2:
                return now.from;
            default:
                throw new IllegalArgumentException("what is 0 to 2");
        }
    }

    public int linearLength() {
        writer.write(now);
        return writer.length;
    }

    public int linearAt(int i) throws IndexOutOfBoundsException {
        writer.write(now);
        if (i < 0 || i >= writer.length) {
            throw new IndexOutOfBoundsException("no such position");
        }
        return writer.signAt(i);
    }

    // ---- moving and selecting; these are no actions

    public int moveTo(int place) throws IndexOutOfBoundsException {
        if (!now.hasPlace(place)) {
            throw new IndexOutOfBoundsException("no such place");
        }
        int before = now.caret;
        now.putCaret(place);
        return before;
    }

    public int moveBy(int places) throws IllegalArgumentException {
        if (places < -MOST_STEPS || places > MOST_STEPS) {
            throw new IllegalArgumentException("places is -200 to 200");
        }
        now.shiftCaret(places);
        return now.caret;
    }

    public int moveVertically(boolean up) {
        int goal = now.verticalGoal(up);
        if (goal != NONE) {
            now.putCaret(goal);
        }
        return goal;
    }

    public int extend(boolean right) throws IllegalStateException {
        boolean extended = right ? now.widenRight() : now.widenLeft();
        if (!extended) {
            throw new IllegalStateException("no such item");
        }
        return now.selectedOfRow();
    }

    public int grow() throws IllegalStateException {
        if (!now.growSelection()) {
            throw new IllegalStateException("nothing is around the main row");
        }
        return now.selectedOfRow();
    }

    public int copy() throws IllegalStateException {
        if (!now.hasSelection()) {
            throw new IllegalStateException("no selection");
        }
        clipboard.take(now, now.from, now.caret);
        return clipboard.countItems(0, clipboard.size);
    }

    // ---- actions

    public int type(int c) throws IllegalArgumentException, IllegalStateException {
        if (!isSymbol(c)) {
            throw new IllegalArgumentException("not a symbol");
        }
        if (!now.canHoldSymbol()) {
            throw new IllegalStateException("too large");
        }
        history.remember(now);
        now.putSymbol(c);
        return now.allItems();
    }

    public int wrap(int kind) throws IllegalArgumentException, IllegalStateException {
        if (!opens(kind)) {
            throw new IllegalArgumentException("kind is 1 to 5");
        }
        if (!now.canHoldStructure()) {
            throw new IllegalStateException("too large");
        }
        history.remember(now);
        now.enclose(kind);
        return now.caret;
    }

    public int backspace() throws IllegalStateException {
        if (!now.canDeleteBack()) {
            throw new IllegalStateException("nothing is before the caret");
        }
        history.remember(now);
        int before = now.allItems();
        now.deleteBack();
        return before - now.allItems();
    }

    public int paste() throws IllegalStateException {
        if (clipboard.size == 0) {
            throw new IllegalStateException("the clipboard is empty");
        }
        if (!now.canHoldAll(clipboard)) {
            throw new IllegalStateException("too large");
        }
        history.remember(now);
        now.putAll(clipboard);
        return now.allItems();
    }

    public int replace(int c, int d) throws IllegalArgumentException {
        if (!isSymbol(c) || !isSymbol(d)) {
            throw new IllegalArgumentException("not a symbol");
        }
        history.remember(now);
        return now.exchange(c, d);
    }

    public int undo() throws IllegalStateException {
        if (history.count == 0) {
            throw new IllegalStateException("no action is remembered");
        }
        history.takeBack(now);
        return history.count;
    }

    // ---- drawing

    public int drawing(int what) throws IllegalArgumentException {
        picture.measure(now);
        switch (what) {
            case 0:
                return picture.width(0);
            case 1:
                return picture.lines(0);
            case 2:
                return picture.above(0);
            default:
                throw new IllegalArgumentException("what is 0 to 2");
        }
    }

    public int drawn(int x, int y) throws IndexOutOfBoundsException {
        picture.measure(now);
        if (x < 0 || x >= picture.width(0) || y < 0 || y >= picture.lines(0)) {
            throw new IndexOutOfBoundsException("no such column or line");
        }
        return picture.signAt(now, x, y);
    }

    // ---- scripts, simulations

    public int runScript(int n, long script) throws IllegalArgumentException {
        if (n < 1 || n > MOST_COMMANDS) {
            throw new IllegalArgumentException("n is 1 to 4");
        }
        if (script < 0 || withoutGroups(script, n) > 0) {
            throw new IllegalArgumentException("script has at most 4 * n digits");
        }
        trial.become(now);
        for (int i = 0; i < n; i++) {
            if (!obeys((int) (withoutGroups(script, n - 1 - i) % 10000))) {
                return i;
            }
        }
        return NONE;
    }

    /** A script without so many of its lowest groups of four digits. */
    private static long withoutGroups(long script, int groups) {
        long rest = script;
        for (int i = 0; i < groups; i++) {
            rest /= 10000;
        }
        return rest;
    }

    private boolean obeys(int command) {
        int first = command / 1000;
        int rest = command % 1000;
        if (first == 1) {
            return typesInTrial(rest);
        }
        if (rest >= 100) {
            return false;
        }
        switch (first) {
            case 2:
                return wrapsInTrial(rest);
            case 3:
                trial.shiftCaret(rest);
                return true;
            case 4:
                trial.shiftCaret(-rest);
                return true;
            case 5:
                return rest == 0 && deletesInTrial();
            case 6:
                return rest == 0 && trial.growSelection();
            case 7:
                return trial.allItems() == rest;
            case 8:
                return trial.caret == rest;
            case 9:
                picture.measure(trial);
                return picture.width(0) == rest;
            default:
                return false;
        }
    }

    public int simulate(long seed, int m) throws IllegalArgumentException {
        if (m < 1 || m > MOST_ROUNDS) {
            throw new IllegalArgumentException("m is 1 to 60");
        }
        trial.become(now);
        long x = seed;
        for (int i = 0; i < m; i++) {
            x = x * 6364136223846793005L + 1442695040888963407L;
            playRound((int) (x >>> 33));
        }
        writer.write(trial);
        return 1000 * trial.allItems() + writer.length;
    }

    private void playRound(int r) {
        int q = r / 8 % 64;
        switch (r % 8) {
            case 0:
            case 1:
            case 2:
                typesInTrial(97 + q % 17);
                break;
            case 3:
            case 4:
                wrapsInTrial(1 + q % 5);
                break;
            case 5:
                trial.shiftCaret(q - 32);
                break;
            case 6:
                deletesInTrial();
                break;
            default:
                trial.growSelection();
                break;
        }
    }

    private boolean typesInTrial(int c) {
        if (!isSymbol(c) || !trial.canHoldSymbol()) {
            return false;
        }
        trial.putSymbol(c);
        return true;
    }

    private boolean wrapsInTrial(int kind) {
        if (!opens(kind) || !trial.canHoldStructure()) {
            return false;
        }
        trial.enclose(kind);
        return true;
    }

    private boolean deletesInTrial() {
        if (!trial.canDeleteBack()) {
            return false;
        }
        trial.deleteBack();
        return true;
    }

    // ---- save slots

    public int save(int slot) throws IndexOutOfBoundsException {
        if (slot < 0 || slot > 1) {
            throw new IndexOutOfBoundsException("slot is 0 or 1");
        }
        Keep keep = slot == 0 ? firstKeep : secondKeep;
        keep.formula.become(now);
        keep.filled = true;
        return now.allItems();
    }

    public int restore(int slot) throws IndexOutOfBoundsException, IllegalStateException {
        if (slot < 0 || slot > 1) {
            throw new IndexOutOfBoundsException("slot is 0 or 1");
        }
        Keep keep = slot == 0 ? firstKeep : secondKeep;
        if (!keep.filled) {
            throw new IllegalStateException("the slot is empty");
        }
        now.become(keep.formula);
        history.forget();
        return now.allItems();
    }

    // ---- characters and marks

    private static boolean isLetter(int c) {
        return c >= 'a' && c <= 'z' && c != 'r';
    }

    private static boolean isDigit(int c) {
        return c >= '0' && c <= '9';
    }

    private static boolean isOperator(int c) {
        return c == '+' || c == '-' || c == '*' || c == '=' || c == ',' || c == '.';
    }

    private static boolean isSymbol(int c) {
        return isLetter(c) || isDigit(c) || isOperator(c);
    }

    /** The opening mark of a structure is its kind. */
    private static boolean opens(int mark) {
        return mark >= FRACTION && mark <= PARENTHESES;
    }

    private static boolean closes(int mark) {
        return mark >= CLOSING + FRACTION && mark <= CLOSING + PARENTHESES;
    }

    private static boolean isScript(int mark) {
        return mark == SUPERSCRIPT || mark == SUBSCRIPT;
    }

    /** Whether a mark is the first of an item. */
    private static boolean startsItem(int mark) {
        return mark >= FRACTION && mark <= PARENTHESES || mark >= LEAST_SYMBOL;
    }

    /** Whether a mark is the last of an item. */
    private static boolean endsItem(int mark) {
        return mark > CLOSING;
    }

    /**
     * A sequence of items, held as a line of marks: one for a symbol, and for a structure one
     * before, between and behind its slots. There is just one place behind each mark, so the place
     * with the number p is the gap before the mark with the index p, and a row is named by its
     * first place.
     */
    private static class Marks {
        private final int[] marks;
        int size;

        Marks(int most) {
            marks = new int[Math.max(0, most)];
        }

        int mark(int i) {
            return i >= 0 && i < size && i < marks.length ? marks[i] : NOTHING;
        }

        boolean hasPlace(int place) {
            return place >= 0 && place <= size;
        }

        void add(int mark) {
            if (size >= 0 && size < marks.length) {
                marks[size] = mark;
                size++;
            }
        }

        void insert(int place, int mark) {
            if (place >= 0 && place <= size && size < marks.length) {
                System.arraycopy(marks, place, marks, place + 1, size - place);
                marks[place] = mark;
                size++;
            }
        }

        void insertAll(int place, Marks other) {
            int count = other.size;
            boolean hasPlace = place >= 0 && place <= size;
            if (hasPlace && count <= other.marks.length && count <= marks.length - size) {
                System.arraycopy(marks, place, marks, place + count, size - place);
                System.arraycopy(other.marks, 0, marks, place, count);
                size += count;
            }
        }

        void remove(int start, int end) {
            if (start >= 0 && start <= end && end <= size && size <= marks.length) {
                System.arraycopy(marks, end, marks, start, size - end);
                size -= end - start;
            }
        }

        void take(Marks other, int start, int end) {
            int count = end - start;
            if (start >= 0 && count >= 0 && end <= other.marks.length && count <= marks.length) {
                System.arraycopy(other.marks, start, marks, 0, count);
                size = count;
            }
        }

        int exchange(int old, int fresh) {
            int found = 0;
            for (int i = 0; i < size && i < marks.length; i++) {
                if (marks[i] == old) {
                    marks[i] = fresh;
                    found++;
                }
            }
            return found;
        }

        int countItems(int start, int end) {
            int items = 0;
            for (int i = start; i < end; i++) {
                if (startsItem(mark(i))) {
                    items++;
                }
            }
            return items;
        }

        int allItems() {
            return countItems(0, size);
        }

        /** How many items begin between two places without lying in another one between them. */
        int rowItems(int start, int end) {
            int items = 0;
            int open = 0;
            for (int i = start; i < end; i++) {
                int mark = mark(i);
                if (open == 0 && startsItem(mark)) {
                    items++;
                }
                open += opening(mark);
            }
            return items;
        }

        /** How many structures more are open behind a mark than before it. */
        private static int opening(int mark) {
            if (mark >= LEAST_SYMBOL) {
                return 0;
            }
            return mark >= FRACTION && mark <= PARENTHESES ? 1 : mark > CLOSING ? -1 : 0;
        }

        /** How many levels the deepest row between two places of a row is below that row. */
        int depth(int start, int end) {
            int open = 0;
            int deepest = 0;
            for (int i = start; i < end; i++) {
                open += opening(mark(i));
                deepest = Math.max(deepest, open);
            }
            return deepest;
        }

        int levelOf(int place) {
            int open = 0;
            for (int i = 0; i < place; i++) {
                open += opening(mark(i));
            }
            return open;
        }

        int emptySlots() {
            int slots = 0;
            for (int i = 0; i < size; i++) {
                boolean beginsSlot = opens(mark(i)) || mark(i) == MIDDLE;
                if (beginsSlot && !startsItem(mark(i + 1))) {
                    slots++;
                }
            }
            return slots;
        }

        int rowStart(int place) {
            int closed = 0;
            for (int i = place - 1; i >= 0; i--) {
                int mark = mark(i);
                if (closed == 0 && (opens(mark) || mark == MIDDLE)) {
                    return i + 1;
                }
                closed -= opening(mark);
            }
            return 0;
        }

        int rowEnd(int place) {
            int open = 0;
            for (int i = place; i < size; i++) {
                int mark = mark(i);
                if (open == 0 && (closes(mark) || mark == MIDDLE)) {
                    return i;
                }
                open += opening(mark);
            }
            return size;
        }

        /** The place behind the item that begins at a place. */
        int itemEnd(int place) {
            int open = 0;
            for (int i = place; i < size; i++) {
                open += opening(mark(i));
                if (open <= 0) {
                    return i + 1;
                }
            }
            return size;
        }

        /** The place before the item that ends at a place. */
        int itemStart(int place) {
            int closed = 0;
            for (int i = place - 1; i >= 0; i--) {
                closed -= opening(mark(i));
                if (closed <= 0) {
                    return i;
                }
            }
            return 0;
        }

        boolean isBehindItem(int place) {
            return endsItem(mark(place - 1));
        }

        /** The place before the structure around a slot; not for the main row. */
        int holder(int row) {
            return mark(row - 1) == MIDDLE ? rowStart(row - 1) - 1 : row - 1;
        }

        /** The kind of the structure around a row, which is 0 for the main row. */
        int kindAround(int row) {
            return row > 0 ? mark(holder(row)) : 0;
        }

        int secondSlot(int fraction) {
            int open = 0;
            for (int i = fraction; i < size; i++) {
                int mark = mark(i);
                if (open == 1 && mark == MIDDLE) {
                    return i + 1;
                }
                open += opening(mark);
            }
            return size;
        }
    }

    /** A formula with its caret and its selection. */
    private static final class Formula extends Marks {
        int caret;
        /** The place before the first selected item; the caret's own place without a selection. */
        int from;

        Formula() {
            super(MOST_MARKS);
        }

        void become(Formula other) {
            take(other, 0, other.size);
            caret = other.caret;
            from = other.from;
        }

        boolean hasSelection() {
            return from < caret;
        }

        int selectedOfRow() {
            return rowItems(from, caret);
        }

        int selectedInAll() {
            return countItems(from, caret);
        }

        void putCaret(int place) {
            caret = place;
            from = place;
        }

        void shiftCaret(int places) {
            putCaret(Math.max(0, Math.min(size, caret + places)));
        }

        void chooseItems(int start, int end) {
            from = start;
            caret = end;
        }

        boolean widenLeft() {
            if (!isBehindItem(from)) {
                return false;
            }
            from = itemStart(from);
            return true;
        }

        boolean widenRight() {
            if (!startsItem(mark(caret))) {
                return false;
            }
            caret = itemEnd(caret);
            return true;
        }

        boolean growSelection() {
            int row = rowStart(caret);
            int end = rowEnd(caret);
            if (!hasSelection() && isBehindItem(caret)) {
                return widenLeft();
            }
            boolean isWhole = from == row && caret == end;
            if (!isWhole) {
                chooseItems(row, end);
                return true;
            }
            if (row == 0) {
                return false;
            }
            int structure = holder(row);
            chooseItems(structure, itemEnd(structure));
            return true;
        }

        /** Where the caret goes up or down to; NONE if it stays. */
        int verticalGoal(boolean up) {
            int goal = goalInFraction(up);
            if (goal != NONE) {
                return goal;
            }
            int entered = up ? SUPERSCRIPT : SUBSCRIPT;
            if (mark(caret) == entered) {
                return caret + 1;
            }
            int left = up ? SUBSCRIPT : SUPERSCRIPT;
            if (kindAround(rowStart(caret)) == left) {
                return rowEnd(caret) + 1;
            }
            return NONE;
        }

        private int goalInFraction(boolean up) {
            int place = caret;
            for (int level = 0; level <= MOST_LEVEL; level++) {
                int row = rowStart(place);
                if (row == 0) {
                    return NONE;
                }
                int structure = holder(row);
                boolean isDenominator = mark(row - 1) == MIDDLE;
                if (mark(structure) == FRACTION && isDenominator == up) {
                    int slot = up ? structure + 1 : secondSlot(structure);
                    return behindItems(slot, rowItems(row, place));
                }
                place = structure;
            }
            return NONE;
        }

        /** The place behind so many items of a row, or behind its last one if it has fewer. */
        private int behindItems(int row, int items) {
            int place = row;
            for (int i = 0; i < items && startsItem(mark(place)); i++) {
                place = itemEnd(place);
            }
            return place;
        }

        /** Whether so many items, so many levels deep, may stand in place of the selection. */
        private boolean canHold(int items, int levels) {
            int kept = countItems(0, size) - countItems(from, caret);
            return kept + items <= MOST_ITEMS && levelOf(caret) + levels <= MOST_LEVEL;
        }

        boolean canHoldSymbol() {
            return canHold(1, 0);
        }

        boolean canHoldStructure() {
            return canHold(1 + countItems(from, caret), 1 + depth(from, caret));
        }

        boolean canHoldAll(Marks items) {
            return canHold(items.allItems(), items.depth(0, items.size));
        }

        private void removeSelection() {
            remove(from, caret);
            putCaret(from);
        }

        void putSymbol(int c) {
            removeSelection();
            insert(caret, c);
            putCaret(caret + 1);
        }

        void putAll(Marks items) {
            removeSelection();
            insertAll(caret, items);
            putCaret(caret + items.size);
        }

        void enclose(int kind) {
            boolean isEmpty = !hasSelection();
            int slot = from + 1;
            int slotEnd = caret + 1;
            insert(from, kind);
            if (kind == FRACTION) {
                insert(slotEnd, MIDDLE);
                insert(slotEnd + 1, CLOSING + kind);
            } else {
                insert(slotEnd, CLOSING + kind);
            }
            // behind the slot's end is the denominator of a fraction, else the place behind it all
            putCaret(isEmpty ? slot : slotEnd + 1);
        }

        boolean canDeleteBack() {
            return hasSelection() || caret > 0;
        }

        void deleteBack() {
            if (hasSelection()) {
                removeSelection();
            } else if (isBehindItem(caret)) {
                deleteItemBefore();
            } else if (caret > 0) {
                dissolve(holder(caret));
            }
        }

        private void deleteItemBefore() {
            int start = itemStart(caret);
            if (countItems(start, caret) == 1) {
                remove(start, caret);
                putCaret(start);
            } else {
                putCaret(caret - 1);
            }
        }

        private void dissolve(int structure) {
            int end = itemEnd(structure);
            remove(end - 1, end);
            int place = caret - 1;
            if (mark(structure) == FRACTION) {
                int second = secondSlot(structure);
                remove(second - 1, second);
                place = second <= caret ? place - 1 : place;
            }
            remove(structure, structure + 1);
            putCaret(place);
        }
    }

    /** A save slot. */
    private static final class Keep {
        final Formula formula = new Formula();
        boolean filled;
    }

    /** The formulas before the last actions, in a ring. */
    private static final class History {
        private final Formula[] ring = new Formula[MOST_REMEMBERED];
        private int oldest;
        int count;

        History() {
            for (int i = 0; i < ring.length; i++) {
                ring[i] = new Formula();
            }
        }

        void forget() {
            count = 0;
        }

        void remember(Formula formula) {
            if (count >= MOST_REMEMBERED) {
                oldest = (oldest + 1) % MOST_REMEMBERED;
                count = MOST_REMEMBERED - 1;
            }
            Formula entry = entry(count);
            if (entry != null) {
                entry.become(formula);
                count++;
            }
        }

        void takeBack(Formula formula) {
            if (count > 0) {
                count--;
                Formula entry = entry(count);
                if (entry != null) {
                    formula.become(entry);
                }
            }
        }

        private Formula entry(int i) {
            int index = (oldest + i) % MOST_REMEMBERED;
            return index >= 0 && index < ring.length ? ring[index] : null;
        }
    }

    /**
     * The text buffer, and the reading of it as a linear text. The brackets that are open are held
     * on a stack of numbers, because a text may nest them deeper than calls should go.
     */
    private static final class Reader {
        /** An element may stand here. */
        private static final int ELEMENT = 0;
        /** As before, or a / or a script that belongs to the factor. */
        private static final int BEHIND_FACTOR = 1;
        private static final int BASE = 2;
        private static final int BEHIND_R = 3;
        /** What is put aside for each open bracket. */
        private static final int FRAME = 6;

        private final int[] signs = new int[MOST_TEXT];
        int length;
        final Marks result = new Marks(MOST_READ);
        private final int[] stack = new int[FRAME * MOST_TEXT];
        private int top;
        private int state;
        /** The kind of structure that the innermost open bracket makes; 0 if none is open. */
        private int bracket;
        /** Where in the result the chain begins that is read now, and where its last factor. */
        private int chain;
        private int factor;
        /** Whether the last factor is a denominator, whose fraction is still to be closed. */
        private boolean isUnder;
        /** Whether the last factor is ( text ) without scripts. */
        private boolean isPlain;
        /** The kind of the script whose base is read now (0 if none), and whether it is a factor's. */
        private int script;
        private boolean isBound;

        boolean hasRoom() {
            return length < signs.length;
        }

        void addSign(int c) {
            if (length >= 0 && length < signs.length) {
                signs[length] = c;
                length++;
            }
        }

        /** Reads the text into the result; answers where its first error is, or NONE. */
        int firstError() {
            begin();
            for (int i = 0; i < length && i < signs.length; i++) {
                if (!takes(signs[i])) {
                    return i;
                }
            }
            if (bracket != 0 || state == BASE || state == BEHIND_R) {
                return length;
            }
            endFactor();
            return NONE;
        }

        private void begin() {
            result.size = 0;
            top = 0;
            bracket = 0;
            beginText();
        }

        private void beginText() {
            state = ELEMENT;
            chain = result.size;
            factor = result.size;
            isUnder = false;
            isPlain = false;
            script = 0;
            isBound = false;
        }

        private boolean takes(int c) {
            if (state == BASE) {
                return takesBase(c);
            }
            if (state == BEHIND_R) {
                return c == '(' && opensBracket(ROOT);
            }
            if (c == '^' || c == '_') {
                beginScript(c == '^' ? SUPERSCRIPT : SUBSCRIPT);
                return true;
            }
            if (c == '/') {
                return takesDivision();
            }
            endFactor();
            return takesElement(c);
        }

        private boolean takesElement(int c) {
            state = ELEMENT;
            if (c == BLANK) {
                return true;
            }
            if (isOperator(c)) {
                result.add(c);
                return true;
            }
            if (c == ')') {
                return closesBracket();
            }
            chain = result.size;
            factor = result.size;
            return takesBase(c);
        }

        private boolean takesBase(int c) {
            if (isLetter(c) || isDigit(c)) {
                result.add(c);
                endBase(false);
                return true;
            }
            if (c == 'r') {
                state = BEHIND_R;
                return true;
            }
            return c == '(' && opensBracket(PARENTHESES);
        }

        private void beginScript(int kind) {
            isBound = state == BEHIND_FACTOR;
            script = kind;
            result.add(kind);
            state = BASE;
        }

        private void endBase(boolean isBracketed) {
            if (script == 0) {
                isPlain = isBracketed;
                state = BEHIND_FACTOR;
                return;
            }
            isPlain = false;
            result.add(CLOSING + script);
            script = 0;
            state = isBound ? BEHIND_FACTOR : ELEMENT;
        }

        private boolean takesDivision() {
            if (state != BEHIND_FACTOR) {
                return false;
            }
            endOperand();
            result.insert(chain, FRACTION);
            result.add(MIDDLE);
            factor = result.size;
            isUnder = true;
            state = BASE;
            return true;
        }

        /** The chain, if one is read, goes on no more. */
        private void endFactor() {
            if (state == BEHIND_FACTOR && isUnder) {
                endOperand();
            }
        }

        /** The last factor becomes the slot of a fraction, whose parentheses then make no item. */
        private void endOperand() {
            if (isPlain) {
                result.remove(result.size - 1, result.size);
                result.remove(factor, factor + 1);
                isPlain = false;
            }
            if (isUnder) {
                result.add(CLOSING + FRACTION);
                isUnder = false;
            }
        }

        private boolean isItem(int kind) {
            return kind == ROOT || script == 0;
        }

        private boolean opensBracket(int kind) {
            if (top > stack.length - FRAME) {
                return false;
            }
            if (isItem(kind)) {
                result.add(kind);
            }
            push(bracket);
            push(chain);
            push(factor);
            push(isUnder ? 1 : 0);
            push(script);
            push(isBound ? 1 : 0);
            bracket = kind;
            beginText();
            return true;
        }

        private boolean closesBracket() {
            if (bracket == 0) {
                return false;
            }
            int kind = bracket;
            isBound = pop() == 1;
            script = pop();
            isUnder = pop() == 1;
            factor = pop();
            chain = pop();
            bracket = pop();
            if (isItem(kind)) {
                result.add(CLOSING + kind);
            }
            endBase(kind == PARENTHESES);
            return true;
        }

        private void push(int number) {
            if (top >= 0 && top < stack.length) {
                stack[top] = number;
                top++;
            }
        }

        private int pop() {
            if (top <= 0 || top > stack.length) {
                return 0;
            }
            top--;
            return stack[top];
        }
    }

    /** The linear text of a formula. */
    private static final class Writer {
        private final int[] signs = new int[MOST_LINEAR];
        int length;
        /** Whether the row that is written on a level stands in brackets. */
        private final boolean[] bracketed = new boolean[MOST_LEVEL + 1];

        int signAt(int i) {
            return i >= 0 && i < length && i < signs.length ? signs[i] : BLANK;
        }

        void write(Marks line) {
            length = 0;
            int level = 0;
            for (int i = 0; i < line.size; i++) {
                int mark = line.mark(i);
                if (opens(mark)) {
                    level++;
                    beginStructure(line, i, level);
                } else if (mark == MIDDLE) {
                    endSlot(level);
                    put('/');
                    beginSlot(level, !standsAsOperand(line, i + 1));
                } else if (closes(mark)) {
                    endSlot(level);
                    level--;
                } else {
                    put(mark);
                }
            }
        }

        private void beginStructure(Marks line, int structure, int level) {
            int kind = line.mark(structure);
            int slot = structure + 1;
            if (kind == FRACTION) {
                beginSlot(level, !standsAsOperand(line, slot));
            } else if (isScript(kind)) {
                if (line.mark(structure - 1) == CLOSING + FRACTION) {
                    // else the script would be read as one of the denominator
                    put(BLANK);
                }
                put(kind == SUPERSCRIPT ? '^' : '_');
                beginSlot(level, !standsAsBase(line, slot));
            } else {
                if (kind == ROOT) {
                    put('r');
                }
                beginSlot(level, true);
            }
        }

        private void beginSlot(int level, boolean brackets) {
            if (level >= 0 && level < bracketed.length) {
                bracketed[level] = brackets;
            }
            if (brackets) {
                put('(');
            }
        }

        private void endSlot(int level) {
            if (level >= 0 && level < bracketed.length && bracketed[level]) {
                put(')');
            }
        }

        private void put(int sign) {
            if (length >= 0 && length < signs.length) {
                signs[length] = sign;
                length++;
            }
        }

        private static boolean standsAsOperand(Marks line, int row) {
            int first = line.mark(row);
            if (!isLetter(first) && !isDigit(first) && first != ROOT && first != PARENTHESES) {
                return false;
            }
            int scripts = 0;
            int place = line.itemEnd(row);
            for (int i = 0; i < MOST_ITEMS && isScript(line.mark(place)); i++) {
                place = line.itemEnd(place);
                scripts++;
            }
            boolean isAll = !startsItem(line.mark(place));
            return isAll && (first != PARENTHESES || scripts > 0);
        }

        private static boolean standsAsBase(Marks line, int row) {
            int first = line.mark(row);
            boolean isBase = isLetter(first) || isDigit(first) || first == ROOT;
            return isBase && !startsItem(line.mark(line.itemEnd(row)));
        }
    }

    /**
     * The drawing of a formula: the boxes of all rows, each kept at the number of the row's first
     * place. A character is looked up by going from box to box, so that no sheet needs to be held.
     */
    private static final class Picture {
        private final int[] widths = new int[MOST_MARKS + 1];
        private final int[] aboves = new int[MOST_MARKS + 1];
        private final int[] belows = new int[MOST_MARKS + 1];
        /** The row that is looked at, and where in its box (lines count from its base line down). */
        private int row;
        private int column;
        private int height;

        int width(int place) {
            return place >= 0 && place < widths.length ? widths[place] : 0;
        }

        int above(int place) {
            return place >= 0 && place < aboves.length ? aboves[place] : 0;
        }

        int below(int place) {
            return place >= 0 && place < belows.length ? belows[place] : 0;
        }

        int lines(int place) {
            return above(place) + 1 + below(place);
        }

        void measure(Marks line) {
            // inner rows begin behind the beginning of the rows around them
            for (int place = line.size; place >= 0; place--) {
                int before = line.mark(place - 1);
                if (place == 0 || opens(before) || before == MIDDLE) {
                    measureRow(line, place);
                }
            }
        }

        private void measureRow(Marks line, int first) {
            boolean isEmpty = !startsItem(line.mark(first));
            int width = isEmpty ? 1 : 0;
            int above = 0;
            int below = 0;
            int item = first;
            for (int i = 0; i < MOST_ITEMS && startsItem(line.mark(item)); i++) {
                width += itemWidth(line, item);
                above = Math.max(above, itemAbove(line, item));
                below = Math.max(below, itemBelow(line, item));
                item = line.itemEnd(item);
            }
            if (first >= 0 && first < widths.length && first < aboves.length && first < belows.length) {
                widths[first] = width;
                aboves[first] = above;
                belows[first] = below;
            }
        }

        private int itemWidth(Marks line, int item) {
            int slot = item + 1;
            switch (line.mark(item)) {
                case FRACTION:
                    return Math.max(width(slot), width(line.secondSlot(item)));
                case SUPERSCRIPT:
                case SUBSCRIPT:
                    return width(slot);
                case ROOT:
                    return 1 + width(slot);
                case PARENTHESES:
                    return 2 + width(slot);
                default:
                    return 1;
            }
        }

        private int itemAbove(Marks line, int item) {
            int slot = item + 1;
            switch (line.mark(item)) {
                case FRACTION:
                case SUPERSCRIPT:
                    return lines(slot);
                case ROOT:
                    return 1 + above(slot);
                case PARENTHESES:
                    return above(slot);
                default:
                    return 0;
            }
        }

        private int itemBelow(Marks line, int item) {
            int slot = item + 1;
            switch (line.mark(item)) {
                case FRACTION:
                    return lines(line.secondSlot(item));
                case SUBSCRIPT:
                    return lines(slot);
                case ROOT:
                case PARENTHESES:
                    return below(slot);
                default:
                    return 0;
            }
        }

        /** The character at a column and a line of the drawing, which has been measured. */
        int signAt(Marks line, int x, int y) {
            row = 0;
            column = x;
            height = y - above(0);
            for (int level = 0; level <= MOST_LEVEL; level++) {
                int sign = signInRow(line);
                if (sign != NONE) {
                    return sign;
                }
            }
            return BLANK;
        }

        /** The character there, or NONE if a slot is entered where it is to be looked for. */
        private int signInRow(Marks line) {
            if (!startsItem(line.mark(row))) {
                return height == 0 ? '?' : BLANK;
            }
            int item = itemAtColumn(line);
            switch (line.mark(item)) {
                case FRACTION:
                    return signInFraction(line, item);
                case SUPERSCRIPT:
                    return enterSlot(item + 1, 0, upwards(item + 1));
                case SUBSCRIPT:
                    return enterSlot(item + 1, 0, downwards(item + 1));
                case ROOT:
                    return signInRoot(item + 1);
                case PARENTHESES:
                    return signInParentheses(item + 1);
                default:
                    return height == 0 ? line.mark(item) : BLANK;
            }
        }

        /** Finds the item at the column, which then counts from this item's first one. */
        private int itemAtColumn(Marks line) {
            int item = row;
            for (int i = 0; i < MOST_ITEMS && column >= itemWidth(line, item); i++) {
                column -= itemWidth(line, item);
                item = line.itemEnd(item);
            }
            return item;
        }

        private int signInFraction(Marks line, int item) {
            if (height == 0) {
                return '-';
            }
            int slot = height < 0 ? item + 1 : line.secondSlot(item);
            int shift = (itemWidth(line, item) - width(slot)) / 2;
            return enterSlot(slot, shift, height < 0 ? upwards(slot) : downwards(slot));
        }

        private int signInRoot(int slot) {
            if (height == -above(slot) - 1) {
                return column > 0 ? '_' : BLANK;
            }
            if (column == 0) {
                return isBeside(slot) ? 'V' : BLANK;
            }
            return enterSlot(slot, 1, 0);
        }

        private int signInParentheses(int slot) {
            if (column == 0) {
                return isBeside(slot) ? '(' : BLANK;
            }
            if (column == width(slot) + 1) {
                return isBeside(slot) ? ')' : BLANK;
            }
            return enterSlot(slot, 1, 0);
        }

        private boolean isBeside(int slot) {
            return height >= -above(slot) && height <= below(slot);
        }

        /** How far down a slot's base line is whose box is directly above the item's base line. */
        private int upwards(int slot) {
            return -1 - below(slot);
        }

        /** The same for a box directly below the item's base line. */
        private int downwards(int slot) {
            return 1 + above(slot);
        }

        /** Goes on in a slot's box, which is moved so far to the right and down from the item's. */
        private int enterSlot(int slot, int right, int down) {
            column -= right;
            height -= down;
            if (column < 0 || column >= width(slot) || !isBeside(slot)) {
                return BLANK;
            }
            row = slot;
            return NONE;
        }
    }
}
