import java.util.ArrayList;
import java.util.List;

/**
 * "a linear language that is read with its first error and written so that it reads back as the
 * same formula": all small texts against a plain reader of the document's grammar, and all small
 * formulas written and read again.
 */
public final class ReadsBack extends Kit {
    private static final String SIGNS = "a+()r^/ ";
    private static final int MOST_SIGNS = 6;
    private static final int MOST_ITEMS = 4;

    public static void main(String[] args) {
        allTexts("");
        allFormulas();
        finish("all that is written reads back");
    }

    // ---- texts

    private static void allTexts(String text) {
        sentence("LINEAR TEXT", "Its error position is the index of the first character that cannot stand at its place; if the "
            + "text ends too soon, it is the length of the text.");
        FormulaEditor x = withText(text);
        int position = new Grammar(text).errorPosition();
        due("error position of '" + text + "'", x.errorPosition(), position);
        if (position == NONE) {
            x.load();
            writtenAndReadAgain("'" + text + "'", x);
        } else {
            due("load of '" + text + "'", answer(x::load), STATE);
        }
        if (text.length() < MOST_SIGNS) {
            for (int i = 0; i < SIGNS.length(); i++) {
                allTexts(text + SIGNS.charAt(i));
            }
        }
    }

    /** The document's grammar, a method for each of its words. */
    private static final class Grammar {
        private final String text;
        private int at;
        private boolean isWrong;

        Grammar(String text) {
            this.text = text;
        }

        int errorPosition() {
            elements();
            return isWrong || at < text.length() ? at : NONE;
        }

        private boolean next(String signs) {
            return !isWrong && at < text.length() && signs.indexOf(text.charAt(at)) >= 0;
        }

        private void take(String signs) {
            if (next(signs)) {
                at++;
            } else {
                isWrong = true;
            }
        }

        private void elements() {
            while (next("a+(r^ ")) {
                if (next("+ ")) {
                    at++;
                } else if (next("^")) {
                    script();
                } else {
                    chain();
                }
            }
        }

        private void chain() {
            factor();
            while (next("/")) {
                at++;
                factor();
            }
        }

        private void factor() {
            base();
            while (next("^")) {
                script();
            }
        }

        private void script() {
            take("^");
            base();
        }

        private void base() {
            if (next("a")) {
                at++;
                return;
            }
            if (next("r")) {
                at++;
            }
            take("(");
            elements();
            take(")");
        }
    }

    // ---- formulas

    private static void allFormulas() {
        List<List<String>> rows = new ArrayList<>();
        rows.add(List.of(""));
        for (int items = 1; items <= MOST_ITEMS; items++) {
            rows.add(rowsOf(items, rows));
        }
        for (List<String> some : rows) {
            for (String row : some) {
                FormulaEditor x = built(row);
                writtenAndReadAgain("the formula built by " + row, x);
            }
        }
        due("formulas of 2 items", rows.get(2).size(), 91);
    }

    /** All rows with so many items, each as what builds it; those with fewer are there already. */
    private static List<String> rowsOf(int items, List<List<String>> rows) {
        List<String> all = new ArrayList<>();
        for (int first = 1; first <= items; first++) {
            for (String item : itemsOf(first, rows)) {
                for (String rest : rows.get(items - first)) {
                    all.add(item + rest);
                }
            }
        }
        return all;
    }

    private static List<String> itemsOf(int items, List<List<String>> rows) {
        List<String> all = new ArrayList<>();
        if (items == 1) {
            all.add("a");
            all.add("+");
        }
        for (int kind = 2; kind <= 5; kind++) {
            for (String slot : rows.get(items - 1)) {
                all.add(kind + slot + ">");
            }
        }
        for (int inFirst = 0; inFirst < items; inFirst++) {
            for (String first : rows.get(inFirst)) {
                for (String second : rows.get(items - 1 - inFirst)) {
                    all.add(1 + first + ">" + second + ">");
                }
            }
        }
        return all;
    }

    /** A kind opens a structure, > leaves a slot, and all else is typed. */
    private static FormulaEditor built(String how) {
        FormulaEditor x = new FormulaEditor();
        for (int i = 0; i < how.length(); i++) {
            char c = how.charAt(i);
            if (c == '>') {
                x.moveBy(1);
            } else if (c >= '1' && c <= '5') {
                x.wrap(c - '0');
            } else {
                x.type(c);
            }
        }
        return x;
    }

    private static void writtenAndReadAgain(String what, FormulaEditor x) {
        sentence("What it is", "written so that it reads back as the same formula");
        String text = linear(x);
        FormulaEditor y = withText(text);
        due("load of " + text + " for " + what, answer(y::load), x.about(0));
        due("formula of " + text + " for " + what, places(y), places(x));
        due("text again for " + what, linear(y), text);
    }

    private static String places(FormulaEditor x) {
        StringBuilder all = new StringBuilder();
        int count = x.about(1);
        for (int place = 0; place < count; place++) {
            for (int what = 3; what <= 5; what++) {
                all.append(x.place(place, what)).append(' ');
            }
        }
        return all.toString();
    }
}
