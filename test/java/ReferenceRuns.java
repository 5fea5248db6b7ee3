import java.util.ArrayList;
import java.util.Arrays;
import java.util.List;

/**
 * Plays many runs of calls, the same ones every time, on the class and on a second, slow editor
 * that is built quite differently (as a tree of rows and items), and compares all answers.
 */
public final class ReferenceRuns {
    private static final int RUNS = 4000;
    private static final int CALLS = 500;
    private static final String SYMBOLS = "abcdefghijklmnopqstuvwxyz0123456789+-*=,.";

    private static long state = 20261119L;
    private static int wrong = 0;

    public static void main(String[] args) {
        for (int run = 1; run <= RUNS && wrong < 10; run++) {
            playRun(run);
        }
        System.out.println(wrong == 0 ? "all answers agree" : wrong + " answers do not agree");
        if (wrong != 0) {
            System.exit(1);
        }
    }

    private static int random(int bound) {
        state = state * 6364136223846793005L + 1442695040888963407L;
        return (int) ((state >>> 33) % bound);
    }

    private static long randomLong() {
        return ((long) random(1 << 30) << 34) ^ ((long) random(1 << 30) << 10) ^ random(1 << 30);
    }

    private static void playRun(int run) {
        FormulaEditor editor = new FormulaEditor();
        Reference reference = new Reference();
        StringBuilder told = new StringBuilder();
        int calls = 0;
        // the largest formulas grow when only building calls are made for a while
        int mood = random(4);
        String pending = "";
        while (calls < CALLS) {
            String name;
            long a = 0;
            long b = 0;
            if (!pending.isEmpty()) {
                name = "append";
                a = pending.charAt(0);
                pending = pending.substring(1);
            } else {
                int op = random(100);
                name = chosen(op, mood);
                if (name.equals("text")) {
                    pending = randomText();
                    name = random(8) == 0 ? "append" : "clearText";
                    a = random(300) - 20;
                } else {
                    a = firstArgument(name, reference);
                    b = secondArgument(name, reference, a);
                }
            }
            calls++;
            told.append(name).append('(').append(a).append(", ").append(b).append(") ");
            String got = answer(editor, name, a, b);
            String want = reference.answer(name, a, b);
            if (!got.equals(want)) {
                wrong++;
                System.out.println("run " + run + ": " + told + "answered " + got + ", due is " + want);
                return;
            }
        }
        if (run % 8 == 0) {
            compareAll(run, editor, reference);
        }
    }

    /** Looks at the whole formula; the answers are promised no more here, but they still hold. */
    private static void compareAll(int run, FormulaEditor editor, Reference reference) {
        String got = whole(editor);
        String want = reference.whole();
        if (!got.equals(want)) {
            wrong++;
            System.out.println("run " + run + ": the formula is\n" + got + "\ndue is\n" + want);
        }
        String linear = reference.linear();
        if (linear.length() <= 120) {
            readBack(run, linear, want);
        }
    }

    private static void readBack(int run, String linear, String want) {
        FormulaEditor editor = new FormulaEditor();
        for (int i = 0; i < linear.length(); i++) {
            editor.append(linear.charAt(i));
        }
        editor.load();
        String got = whole(editor);
        if (!got.equals(want)) {
            wrong++;
            System.out.println("run " + run + ": " + linear + " reads back as\n" + got + "\ndue is\n" + want);
        }
    }

    private static String whole(FormulaEditor editor) {
        StringBuilder all = new StringBuilder();
        for (int i = 0; i < editor.linearLength(); i++) {
            all.append((char) editor.linearAt(i));
        }
        for (int y = 0; y < editor.drawing(1); y++) {
            all.append('\n');
            for (int x = 0; x < editor.drawing(0); x++) {
                all.append((char) editor.drawn(x, y));
            }
        }
        for (int place = 0; place < editor.about(1); place++) {
            all.append('\n');
            for (int what = 0; what < 6; what++) {
                all.append(editor.place(place, what)).append(' ');
            }
        }
        return all.toString();
    }

    private static String chosen(int op, int mood) {
        // a text takes many calls, so most runs have few of them
        boolean isReading = mood == 0 || random(15) == 0;
        if (isReading && op < 3) {
            return "text";
        }
        if (isReading && op < 6) {
            return "load";
        }
        if (mood > 1 && op < 60) {
            String[] building = {"type", "wrap", "wrap", "paste", "extend", "extend", "moveBy", "copy", "type", "type",
                "moveTo"};
            return building[random(building.length)];
        }
        String[] all = {"clearText", "errorPosition", "about", "about", "place", "place", "place", "selection",
            "selection", "linearLength", "linearAt", "linearAt", "moveTo", "moveBy", "moveVertically",
            "moveVertically", "extend", "extend", "grow", "grow", "copy", "type", "wrap", "backspace", "backspace",
            "paste", "replace", "undo", "drawing", "drawing", "drawn", "drawn", "drawn", "runScript", "simulate",
            "save", "restore"};
        return all[random(all.length)];
    }

    private static long firstArgument(String name, Reference reference) {
        switch (name) {
            case "about":
                return random(8) - 1;
            case "place":
            case "moveTo":
                return random(reference.places().size() + 2) - 1;
            case "selection":
            case "drawing":
                return random(5) - 1;
            case "linearAt":
                return random(reference.linear().length() + 2) - 1;
            case "moveBy":
                return random(6) == 0 ? random(410) - 205 : random(15) - 7;
            case "moveVertically":
            case "extend":
                return random(2);
            case "type":
            case "replace":
                return random(12) == 0 ? random(270) - 5 : SYMBOLS.charAt(random(3) == 0 ? random(41) : random(4));
            case "wrap":
                return random(12) == 0 ? random(9) - 2 : 1 + random(5);
            case "drawn":
                return random(reference.box().width + 2) - 1;
            case "runScript":
                return random(12) == 0 ? random(7) - 1 : 1 + random(4);
            case "simulate":
                return randomLong();
            case "save":
            case "restore":
                return random(10) == 0 ? random(5) - 2 : random(2);
            default:
                return 0;
        }
    }

    private static long secondArgument(String name, Reference reference, long a) {
        switch (name) {
            case "place":
                return random(8) - 1;
            case "replace":
                return random(12) == 0 ? random(270) - 5 : SYMBOLS.charAt(random(3) == 0 ? random(41) : random(4));
            case "drawn":
                return random(reference.box().lines() + 2) - 1;
            case "runScript":
                return randomScript((int) a, reference);
            case "simulate":
                return random(10) == 0 ? random(70) - 4 : 1 + random(60);
            default:
                return 0;
        }
    }

    private static long randomScript(int n, Reference reference) {
        long script = 0;
        for (int i = 0; i < Math.max(1, Math.min(5, n)); i++) {
            script = script * 10000 + randomCommand(reference);
        }
        return random(40) == 0 ? -script : random(40) == 0 ? randomLong() : script;
    }

    private static int randomCommand(Reference reference) {
        int d = random(25);
        switch (d) {
            case 1:
            case 10:
            case 11:
            case 12:
                return 1000 + (random(10) == 0 ? random(1000) : SYMBOLS.charAt(random(41)));
            case 2:
            case 13:
            case 14:
                return 2000 + (random(10) == 0 ? random(100) : 1 + random(5));
            case 3:
            case 4:
                return 1000 * d + (random(10) == 0 ? random(1000) : random(9));
            case 5:
            case 15:
                return 5000;
            case 6:
            case 16:
                return 6000;
            case 7:
                return 7000 + reference.allItems() + (random(3) == 0 ? random(4) : 0);
            case 8:
                return 8000 + reference.caretPlace() % 100 + (random(3) == 0 ? random(4) : 0);
            case 9:
                return 9000 + reference.box().width % 100 + (random(3) == 0 ? random(4) : 0);
            default:
                return random(10) == 0 ? random(10000) : 5000 + 1000 * random(2);
        }
    }

    /** A linear text most of the time, and one with a fault in it sometimes. */
    private static String randomText() {
        StringBuilder text = new StringBuilder();
        addElements(text, 0);
        if (random(3) == 0 && text.length() > 0) {
            int at = random(text.length());
            String any = "()/^_r r+ax2%Z~" + (char) random(256);
            switch (random(3)) {
                case 0:
                    text.deleteCharAt(at);
                    break;
                case 1:
                    text.setCharAt(at, any.charAt(random(any.length())));
                    break;
                default:
                    text.insert(at, any.charAt(random(any.length())));
                    break;
            }
        }
        return text.length() > 125 ? text.substring(0, 125) : text.toString();
    }

    private static void addElements(StringBuilder text, int depth) {
        int elements = random(depth == 0 ? 8 : 4);
        for (int i = 0; i < elements; i++) {
            switch (random(6)) {
                case 0:
                    text.append(' ');
                    break;
                case 1:
                    text.append("+-*=,.".charAt(random(6)));
                    break;
                case 2:
                    text.append("^_".charAt(random(2)));
                    addBase(text, depth);
                    break;
                default:
                    addFactor(text, depth);
                    for (int k = random(3); k > 0; k--) {
                        text.append('/');
                        addFactor(text, depth);
                    }
                    break;
            }
        }
    }

    private static void addFactor(StringBuilder text, int depth) {
        addBase(text, depth);
        for (int k = random(5) - 2; k > 0; k--) {
            text.append("^_".charAt(random(2)));
            addBase(text, depth);
        }
    }

    private static void addBase(StringBuilder text, int depth) {
        int choice = random(4);
        if (choice < 2 || depth > 6) {
            text.append("abxyz0123".charAt(random(9)));
            return;
        }
        text.append(choice == 2 ? "r(" : "(");
        addElements(text, depth + 1);
        text.append(')');
    }

    private static String answer(FormulaEditor editor, String name, long a, long b) {
        try {
            return String.valueOf(called(editor, name, a, b));
        } catch (RuntimeException e) {
            return e.getClass().getSimpleName();
        }
    }

    private static int called(FormulaEditor editor, String name, long a, long b) {
        switch (name) {
            case "append": return editor.append((int) a);
            case "clearText": return editor.clearText();
            case "errorPosition": return editor.errorPosition();
            case "load": return editor.load();
            case "about": return editor.about((int) a);
            case "place": return editor.place((int) a, (int) b);
            case "selection": return editor.selection((int) a);
            case "linearLength": return editor.linearLength();
            case "linearAt": return editor.linearAt((int) a);
            case "moveTo": return editor.moveTo((int) a);
            case "moveBy": return editor.moveBy((int) a);
            case "moveVertically": return editor.moveVertically(a == 1);
            case "extend": return editor.extend(a == 1);
            case "grow": return editor.grow();
            case "copy": return editor.copy();
            case "type": return editor.type((int) a);
            case "wrap": return editor.wrap((int) a);
            case "backspace": return editor.backspace();
            case "paste": return editor.paste();
            case "replace": return editor.replace((int) a, (int) b);
            case "undo": return editor.undo();
            case "drawing": return editor.drawing((int) a);
            case "drawn": return editor.drawn((int) a, (int) b);
            case "runScript": return editor.runScript((int) a, b);
            case "simulate": return editor.simulate(a, (int) b);
            case "save": return editor.save((int) a);
            case "restore": return editor.restore((int) a);
            default: throw new AssertionError(name);
        }
    }

    // ---- the second editor

    /** A call that throws; the message is the simple name of the exception that is due. */
    private static final class Refusal extends RuntimeException {
        private static final long serialVersionUID = 1L;

        Refusal(String name) {
            super(name);
        }
    }

    private static final String ARGUMENT = "IllegalArgumentException";
    private static final String STATE = "IllegalStateException";
    private static final String INDEX = "IndexOutOfBoundsException";

    private static void refuseIf(boolean refused, String name) {
        if (refused) {
            throw new Refusal(name);
        }
    }

    private static final class Row {
        final List<Item> items = new ArrayList<>();
        Item owner;
        int slot;

        int level() {
            return owner == null ? 0 : 1 + owner.row.level();
        }

        void adopt(List<Item> more, int at) {
            items.addAll(at, more);
            for (Item item : more) {
                item.row = this;
            }
        }

        int count() {
            int all = 0;
            for (Item item : items) {
                all += item.count();
            }
            return all;
        }

        int height() {
            int most = 0;
            for (Item item : items) {
                for (Row slot : item.slots) {
                    most = Math.max(most, 1 + slot.height());
                }
            }
            return most;
        }
    }

    private static final class Item {
        /** A symbol's code or a structure's kind. */
        int sign;
        final List<Row> slots = new ArrayList<>();
        Row row;

        Item(int sign) {
            this.sign = sign;
            int count = sign == 1 ? 2 : sign <= 5 ? 1 : 0;
            for (int i = 0; i < count; i++) {
                Row slot = new Row();
                slot.owner = this;
                slot.slot = i;
                slots.add(slot);
            }
        }

        boolean isSymbol() {
            return slots.isEmpty();
        }

        int count() {
            int all = 1;
            for (Row slot : slots) {
                all += slot.count();
            }
            return all;
        }

        Item twin() {
            Item twin = new Item(sign);
            for (int i = 0; i < slots.size(); i++) {
                twin.slots.get(i).adopt(twins(slots.get(i).items), 0);
            }
            return twin;
        }
    }

    private static List<Item> twins(List<Item> items) {
        List<Item> twins = new ArrayList<>();
        for (Item item : items) {
            twins.add(item.twin());
        }
        return twins;
    }

    private record Place(Row row, int index) {
    }

    /** A drawing as lines of text; above is how many of them are above the base line. */
    private static final class Box {
        final int width;
        final int above;
        final char[][] lines;

        Box(int width, int above, int below) {
            this.width = width;
            this.above = above;
            lines = new char[above + 1 + below][width];
            for (char[] line : lines) {
                Arrays.fill(line, ' ');
            }
        }

        int lines() {
            return lines.length;
        }

        int below() {
            return lines.length - 1 - above;
        }

        /** Puts a box in so that its first column and its base line come to these. */
        void put(Box box, int x, int base) {
            for (int y = 0; y < box.lines(); y++) {
                System.arraycopy(box.lines[y], 0, lines[above + base - box.above + y], x, box.width);
            }
        }
    }

    private static final class Reference {
        String text = "";
        Row main = new Row();
        Row row = main;
        int index;
        int selected;
        List<Item> clipboard = new ArrayList<>();
        final List<Reference> remembered = new ArrayList<>();
        final Reference[] saved = new Reference[2];
        private int at;

        String answer(String name, long a, long b) {
            try {
                return String.valueOf(called(name, a, b));
            } catch (Refusal refusal) {
                return refusal.getMessage();
            }
        }

        private int called(String name, long a, long b) {
            int i = (int) a;
            int k = (int) b;
            switch (name) {
                case "append": return append(i);
                case "clearText": return clear();
                case "errorPosition": return error();
                case "load": return load();
                case "about": return about(i);
                case "place": return aboutPlace(i, k);
                case "selection": return aboutSelection(i);
                case "linearLength": return linear().length();
                case "linearAt":
                    refuseIf(i < 0 || i >= linear().length(), INDEX);
                    return linear().charAt(i);
                case "moveTo": return moveTo(i);
                case "moveBy":
                    refuseIf(i < -200 || i > 200, ARGUMENT);
                    return moveBy(i);
                case "moveVertically": return moveVertically(a == 1);
                case "extend": return extend(a == 1);
                case "grow": return grow();
                case "copy": return copy();
                case "type": case "wrap": case "backspace": case "paste": case "replace":
                    return act(name, i, k);
                case "undo": return undo();
                case "drawing":
                    refuseIf(i < 0 || i > 2, ARGUMENT);
                    return i == 0 ? box().width : i == 1 ? box().lines() : box().above;
                case "drawn":
                    refuseIf(i < 0 || i >= box().width || k < 0 || k >= box().lines(), INDEX);
                    return box().lines[k][i];
                case "runScript": return script(i, b);
                case "simulate": return simulate(a, k);
                case "save":
                    refuseIf(i != 0 && i != 1, INDEX);
                    saved[i] = twin();
                    return main.count();
                case "restore":
                    refuseIf(i != 0 && i != 1, INDEX);
                    refuseIf(saved[i] == null, STATE);
                    become(saved[i]);
                    remembered.clear();
                    return main.count();
                default: throw new AssertionError(name);
            }
        }

        private int append(int c) {
            refuseIf(c < 0 || c > 255, ARGUMENT);
            refuseIf(text.length() == 120, STATE);
            text += (char) c;
            return text.length();
        }

        private int clear() {
            int before = text.length();
            text = "";
            return before;
        }

        // reading, by descent

        private static final class Fault extends RuntimeException {
            private static final long serialVersionUID = 1L;
        }

        private int error() {
            try {
                read();
                return -9;
            } catch (Fault fault) {
                return at;
            }
        }

        private List<Item> read() {
            at = 0;
            List<Item> items = readText();
            if (at < text.length()) {
                throw new Fault();
            }
            return items;
        }

        private int next() {
            return at < text.length() ? text.charAt(at) : -1;
        }

        private void expect(char c) {
            if (next() != c) {
                throw new Fault();
            }
            at++;
        }

        private List<Item> readText() {
            List<Item> items = new ArrayList<>();
            while (true) {
                int c = next();
                if (c == ' ') {
                    at++;
                } else if (c > 0 && "+-*=,.".indexOf(c) >= 0) {
                    at++;
                    items.add(new Item(c));
                } else if (c == '^' || c == '_') {
                    items.add(readScript());
                } else if (startsBase(c)) {
                    items.addAll(readChain());
                } else {
                    return items;
                }
            }
        }

        private boolean startsBase(int c) {
            return c >= 'a' && c <= 'z' || c >= '0' && c <= '9' || c == '(';
        }

        private Item readBase() {
            int c = next();
            if (!startsBase(c)) {
                throw new Fault();
            }
            at++;
            if (c != '(' && c != 'r') {
                return new Item(c);
            }
            if (c == 'r') {
                expect('(');
            }
            Item item = new Item(c == 'r' ? 4 : 5);
            item.slots.get(0).adopt(readText(), 0);
            expect(')');
            return item;
        }

        private List<Item> slotItems(List<Item> items) {
            Item first = items.get(0);
            return items.size() == 1 && first.sign == 5 ? first.slots.get(0).items : items;
        }

        private Item readScript() {
            Item script = new Item(next() == '^' ? 2 : 3);
            at++;
            script.slots.get(0).adopt(slotItems(List.of(readBase())), 0);
            return script;
        }

        private List<Item> readFactor() {
            List<Item> items = new ArrayList<>();
            items.add(readBase());
            while (next() == '^' || next() == '_') {
                items.add(readScript());
            }
            return items;
        }

        private List<Item> readChain() {
            List<Item> chain = readFactor();
            while (next() == '/') {
                at++;
                List<Item> factor = readFactor();
                Item fraction = new Item(1);
                fraction.slots.get(0).adopt(slotItems(chain), 0);
                fraction.slots.get(1).adopt(slotItems(factor), 0);
                chain = List.of(fraction);
            }
            return chain;
        }

        private int load() {
            refuseIf(error() != -9, STATE);
            Row fresh = new Row();
            fresh.adopt(read(), 0);
            refuseIf(fresh.count() > 60 || fresh.height() > 5, STATE);
            main = fresh;
            row = fresh;
            index = 0;
            selected = 0;
            remembered.clear();
            saved[0] = null;
            saved[1] = null;
            return main.count();
        }

        // places

        List<Place> places() {
            List<Place> places = new ArrayList<>();
            addPlaces(main, places);
            return places;
        }

        private void addPlaces(Row of, List<Place> places) {
            places.add(new Place(of, 0));
            for (int i = 0; i < of.items.size(); i++) {
                for (Row slot : of.items.get(i).slots) {
                    addPlaces(slot, places);
                }
                places.add(new Place(of, i + 1));
            }
        }

        private int numberOf(Row of, int i) {
            List<Place> places = places();
            for (int p = 0; p < places.size(); p++) {
                if (places.get(p).row() == of && places.get(p).index() == i) {
                    return p;
                }
            }
            throw new AssertionError("a place outside the formula");
        }

        int caretPlace() {
            return numberOf(row, index);
        }

        int allItems() {
            return main.count();
        }

        private int about(int what) {
            refuseIf(what < 0 || what > 5, ARGUMENT);
            switch (what) {
                case 0: return main.count();
                case 1: return places().size();
                case 2: return caretPlace();
                case 3: return main.height();
                case 4: return emptySlots(main);
                default: return clipped();
            }
        }

        private int clipped() {
            int all = 0;
            for (Item item : clipboard) {
                all += item.count();
            }
            return all;
        }

        private int emptySlots(Row of) {
            int all = 0;
            for (Item item : of.items) {
                for (Row slot : item.slots) {
                    all += slot.items.isEmpty() ? 1 : emptySlots(slot);
                }
            }
            return all;
        }

        private int aboutPlace(int number, int what) {
            List<Place> places = places();
            refuseIf(number < 0 || number >= places.size(), INDEX);
            refuseIf(what < 0 || what > 5, ARGUMENT);
            Row of = places.get(number).row();
            int i = places.get(number).index();
            switch (what) {
                case 0: return of.level();
                case 1: return i;
                case 2: return of.items.size();
                case 3: return of.owner == null ? 0 : of.owner.sign;
                case 4: return of.slot;
                default: return i < of.items.size() ? of.items.get(i).sign : -9;
            }
        }

        private List<Item> chosen() {
            return row.items.subList(index - selected, index);
        }

        private int aboutSelection(int what) {
            refuseIf(what < 0 || what > 2, ARGUMENT);
            if (what == 0) {
                return selected;
            }
            if (what == 2) {
                return numberOf(row, index - selected);
            }
            int all = 0;
            for (Item item : chosen()) {
                all += item.count();
            }
            return all;
        }

        // writing

        String linear() {
            return linear(main);
        }

        private String linear(Row of) {
            StringBuilder all = new StringBuilder();
            for (int i = 0; i < of.items.size(); i++) {
                Item item = of.items.get(i);
                switch (item.sign) {
                    case 1:
                        all.append(operand(item.slots.get(0))).append('/').append(operand(item.slots.get(1)));
                        break;
                    case 2:
                    case 3:
                        if (i > 0 && of.items.get(i - 1).sign == 1) {
                            all.append(' ');
                        }
                        all.append(item.sign == 2 ? '^' : '_').append(base(item.slots.get(0)));
                        break;
                    case 4:
                        all.append("r(").append(linear(item.slots.get(0))).append(')');
                        break;
                    case 5:
                        all.append('(').append(linear(item.slots.get(0))).append(')');
                        break;
                    default:
                        all.append((char) item.sign);
                        break;
                }
            }
            return all.toString();
        }

        private boolean isWord(int sign) {
            return sign >= 'a' && sign <= 'z' || sign >= '0' && sign <= '9';
        }

        private String operand(Row of) {
            boolean plain = !of.items.isEmpty();
            for (int i = 0; i < of.items.size(); i++) {
                int sign = of.items.get(i).sign;
                plain &= i == 0 ? isWord(sign) || sign == 4 || sign == 5 : sign == 2 || sign == 3;
            }
            plain &= !(of.items.size() == 1 && of.items.get(0).sign == 5);
            return plain ? linear(of) : "(" + linear(of) + ")";
        }

        private String base(Row of) {
            boolean plain = of.items.size() == 1 && (isWord(of.items.get(0).sign) || of.items.get(0).sign == 4);
            return plain ? linear(of) : "(" + linear(of) + ")";
        }

        // moving

        private void goTo(Row of, int i) {
            row = of;
            index = i;
            selected = 0;
        }

        private int moveTo(int number) {
            List<Place> places = places();
            refuseIf(number < 0 || number >= places.size(), INDEX);
            int before = caretPlace();
            goTo(places.get(number).row(), places.get(number).index());
            return before;
        }

        private int moveBy(int steps) {
            List<Place> places = places();
            int goal = Math.max(0, Math.min(places.size() - 1, caretPlace() + steps));
            goTo(places.get(goal).row(), places.get(goal).index());
            return goal;
        }

        private int moveVertically(boolean up) {
            int before = index;
            for (Row r = row; r.owner != null; r = r.owner.row) {
                if (r.owner.sign == 1 && r.slot == (up ? 1 : 0)) {
                    Row other = r.owner.slots.get(up ? 0 : 1);
                    goTo(other, Math.min(before, other.items.size()));
                    return caretPlace();
                }
                before = r.owner.row.items.indexOf(r.owner);
            }
            if (index < row.items.size() && row.items.get(index).sign == (up ? 2 : 3)) {
                goTo(row.items.get(index).slots.get(0), 0);
                return caretPlace();
            }
            if (row.owner != null && row.owner.sign == (up ? 3 : 2)) {
                goTo(row.owner.row, row.owner.row.items.indexOf(row.owner) + 1);
                return caretPlace();
            }
            return -9;
        }

        private int extend(boolean right) {
            refuseIf(right ? index == row.items.size() : index == selected, STATE);
            index += right ? 1 : 0;
            selected++;
            return selected;
        }

        private int grow() {
            int size = row.items.size();
            if (selected == 0 && index > 0) {
                selected = 1;
            } else if (size > 0 && selected < size) {
                index = size;
                selected = size;
            } else {
                refuseIf(row.owner == null, STATE);
                Item owner = row.owner;
                row = owner.row;
                index = row.items.indexOf(owner) + 1;
                selected = 1;
            }
            return selected;
        }

        private int copy() {
            refuseIf(selected == 0, STATE);
            clipboard = twins(chosen());
            return clipped();
        }

        // actions

        private Reference twin() {
            Reference twin = new Reference();
            twin.become(this);
            return twin;
        }

        private void become(Reference other) {
            int caret = other.caretPlace();
            Row fresh = new Row();
            fresh.adopt(twins(other.main.items), 0);
            main = fresh;
            Place place = places().get(caret);
            row = place.row();
            index = place.index();
            selected = other.selected;
        }

        private int act(String name, int a, int b) {
            Reference before = twin();
            int result;
            try {
                result = changed(name, a, b);
            } catch (Refusal refusal) {
                become(before);
                throw refusal;
            }
            remembered.add(before);
            if (remembered.size() > 14) {
                remembered.remove(0);
            }
            return result;
        }

        private int changed(String name, int a, int b) {
            switch (name) {
                case "type": return type(a);
                case "wrap": return wrap(a);
                case "backspace": return backspace();
                case "paste": return paste();
                default: return replace(main, a, b);
            }
        }

        private void insert(List<Item> items) {
            chosen().clear();
            index -= selected;
            selected = 0;
            row.adopt(items, index);
            index += items.size();
        }

        private void refuseTooLarge() {
            refuseIf(main.count() > 60 || main.height() > 5, STATE);
        }

        private int type(int c) {
            refuseIf(c < 0 || c > 255 || SYMBOLS.indexOf(c) < 0, ARGUMENT);
            insert(List.of(new Item(c)));
            refuseTooLarge();
            return main.count();
        }

        private int wrap(int kind) {
            refuseIf(kind < 1 || kind > 5, ARGUMENT);
            Item item = new Item(kind);
            List<Item> inside = twins(chosen());
            insert(List.of(item));
            item.slots.get(0).adopt(inside, 0);
            refuseTooLarge();
            Row last = item.slots.get(item.slots.size() - 1);
            if (inside.isEmpty()) {
                goTo(item.slots.get(0), 0);
            } else if (last.items.isEmpty()) {
                goTo(last, 0);
            }
            return caretPlace();
        }

        private int backspace() {
            int before = main.count();
            if (selected > 0) {
                insert(List.of());
                return before - main.count();
            }
            if (index > 0) {
                Item item = row.items.get(index - 1);
                if (item.count() == 1) {
                    row.items.remove(index - 1);
                    index--;
                    return 1;
                }
                Row last = item.slots.get(item.slots.size() - 1);
                goTo(last, last.items.size());
                return 0;
            }
            refuseIf(row.owner == null, STATE);
            Item owner = row.owner;
            Row outer = owner.row;
            int at = outer.items.indexOf(owner);
            List<Item> all = new ArrayList<>();
            int skipped = 0;
            for (Row slot : owner.slots) {
                if (slot == row) {
                    skipped = all.size();
                }
                all.addAll(slot.items);
            }
            outer.items.remove(at);
            outer.adopt(all, at);
            goTo(outer, at + skipped);
            return before - main.count();
        }

        private int paste() {
            refuseIf(clipboard.isEmpty(), STATE);
            insert(twins(clipboard));
            refuseTooLarge();
            return main.count();
        }

        private int replace(Row of, int c, int d) {
            refuseIf(c < 0 || c > 255 || SYMBOLS.indexOf(c) < 0, ARGUMENT);
            refuseIf(d < 0 || d > 255 || SYMBOLS.indexOf(d) < 0, ARGUMENT);
            int found = 0;
            for (Item item : of.items) {
                if (item.sign == c) {
                    item.sign = d;
                    found++;
                }
                for (Row slot : item.slots) {
                    found += replace(slot, c, d);
                }
            }
            return found;
        }

        private int undo() {
            refuseIf(remembered.isEmpty(), STATE);
            become(remembered.remove(remembered.size() - 1));
            return remembered.size();
        }

        // drawing

        Box box() {
            return box(main);
        }

        private Box box(Row of) {
            if (of.items.isEmpty()) {
                return box((int) '?');
            }
            List<Box> boxes = new ArrayList<>();
            int width = 0;
            int above = 0;
            int below = 0;
            for (Item item : of.items) {
                Box box = box(item);
                boxes.add(box);
                width += box.width;
                above = Math.max(above, box.above);
                below = Math.max(below, box.below());
            }
            Box all = new Box(width, above, below);
            int x = 0;
            for (Box box : boxes) {
                all.put(box, x, 0);
                x += box.width;
            }
            return all;
        }

        private Box box(int sign) {
            Box box = new Box(1, 0, 0);
            box.lines[0][0] = (char) sign;
            return box;
        }

        private Box box(Item item) {
            if (item.isSymbol()) {
                return box(item.sign);
            }
            Box slot = box(item.slots.get(0));
            switch (item.sign) {
                case 1: return fraction(slot, box(item.slots.get(1)));
                case 2: {
                    Box box = new Box(slot.width, slot.lines(), 0);
                    box.put(slot, 0, -1 - slot.below());
                    return box;
                }
                case 3: {
                    Box box = new Box(slot.width, 0, slot.lines());
                    box.put(slot, 0, 1 + slot.above);
                    return box;
                }
                case 4: {
                    Box box = new Box(slot.width + 1, slot.above + 1, slot.below());
                    box.put(slot, 1, 0);
                    Arrays.fill(box.lines[0], 1, box.width, '_');
                    for (int y = 1; y < box.lines(); y++) {
                        box.lines[y][0] = 'V';
                    }
                    return box;
                }
                default: {
                    Box box = new Box(slot.width + 2, slot.above, slot.below());
                    box.put(slot, 1, 0);
                    for (char[] line : box.lines) {
                        line[0] = '(';
                        line[box.width - 1] = ')';
                    }
                    return box;
                }
            }
        }

        private Box fraction(Box upper, Box lower) {
            Box box = new Box(Math.max(upper.width, lower.width), upper.lines(), lower.lines());
            Arrays.fill(box.lines[box.above], '-');
            box.put(upper, (box.width - upper.width) / 2, -1 - upper.below());
            box.put(lower, (box.width - lower.width) / 2, 1 + lower.above);
            return box;
        }

        // scripts and simulations

        private int script(int n, long script) {
            refuseIf(n < 1 || n > 4, ARGUMENT);
            refuseIf(script < 0 || String.valueOf(script).length() > 4 * n, ARGUMENT);
            StringBuilder digits = new StringBuilder(String.valueOf(script));
            while (digits.length() < 4 * n) {
                digits.insert(0, '0');
            }
            Reference copy = twin();
            for (int i = 0; i < n; i++) {
                if (!copy.obeys(digits.substring(4 * i, 4 * i + 4))) {
                    return i;
                }
            }
            return -9;
        }

        private boolean succeeds(String name, int a) {
            String result = answer(name, a, 0);
            return !result.endsWith("Exception");
        }

        private boolean obeys(String digits) {
            int last2 = Integer.parseInt(digits.substring(2));
            if (digits.charAt(0) == '1') {
                return succeeds("type", Integer.parseInt(digits.substring(1)));
            }
            if (digits.charAt(1) != '0') {
                return false;
            }
            if (digits.startsWith("200")) {
                return succeeds("wrap", last2);
            }
            switch (digits.charAt(0)) {
                case '3': return succeeds("moveBy", last2);
                case '4': return succeeds("moveBy", -last2);
                case '5': return last2 == 0 && succeeds("backspace", 0);
                case '6': return last2 == 0 && succeeds("grow", 0);
                case '7': return main.count() == last2;
                case '8': return caretPlace() == last2;
                case '9': return box().width == last2;
                default: return false;
            }
        }

        private int simulate(long seed, int m) {
            refuseIf(m < 1 || m > 60, ARGUMENT);
            Reference copy = twin();
            long x = seed;
            for (int i = 0; i < m; i++) {
                x = x * 6364136223846793005L + 1442695040888963407L;
                int r = (int) (x >>> 33);
                int q = r / 8 % 64;
                int kind = r % 8;
                if (kind <= 2) {
                    copy.succeeds("type", 97 + q % 17);
                } else if (kind <= 4) {
                    copy.succeeds("wrap", 1 + q % 5);
                } else if (kind == 5) {
                    copy.succeeds("moveBy", q - 32);
                } else {
                    copy.succeeds(kind == 6 ? "backspace" : "grow", 0);
                }
            }
            return 1000 * copy.main.count() + copy.linear().length();
        }

        String whole() {
            StringBuilder all = new StringBuilder(linear());
            for (char[] line : box().lines) {
                all.append('\n').append(line);
            }
            for (int place = 0; place < places().size(); place++) {
                all.append('\n');
                for (int what = 0; what < 6; what++) {
                    all.append(aboutPlace(place, what)).append(' ');
                }
            }
            return all.toString();
        }
    }
}
