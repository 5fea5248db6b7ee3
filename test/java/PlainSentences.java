/**
 * The sentences of the document that name no boundary, from its first line on: an ordinary case for
 * each one that DescriptionBoundaries and PromiseBoundaries do not quote.
 */
public final class PlainSentences extends Kit {
    /** A formula with each kind of structure, two levels deep. */
    private static final String EACH_KIND = "x+a/b ^(c-1)_2*r(d=e)(f,().)";
    private static final String[] KINDS = {"a/b", "^a", "_a", "r(a)", "(a)"};

    public static void main(String[] args) {
        whatItIs();
        formulas();
        caret();
        linearText();
        drawing();
        exceptions();
        text();
        whatThereIs();
        moving();
        selecting();
        typing();
        deletingAndReplacing();
        drawn();
        scripts();
        simulations();
        saveSlots();
        finish("the plain sentences hold");
    }

    private static String parts(FormulaEditor x, int what) {
        StringBuilder all = new StringBuilder();
        for (int place = 0; place < x.about(1); place++) {
            all.append(x.place(place, what)).append(' ');
        }
        return all.toString().trim();
    }

    // ---- the description

    private static void whatItIs() {
        sentence("What it is", "An editor for formulas in two dimensions: rows of symbols, fractions, scripts, roots and "
            + "parentheses");
        due("a formula with all of them", linear(loaded(EACH_KIND)), EACH_KIND);
        sentence("What it is", "a caret that goes through all of them");
        FormulaEditor x = loaded(EACH_KIND);
        int last = x.about(1) - 1;
        for (int place = 1; place <= last; place++) {
            due("a step to the right", x.moveBy(1), place);
        }
        for (int place = last - 1; place >= 0; place--) {
            due("a step to the left", x.moveBy(-1), place);
        }
        sentence("What it is", "selections that grow by structure");
        // 0 ( 1 a 2 + 3 [ 4 b 5 | 6 c 7 ] 8 ) 9
        FormulaEditor y = at("(a+b/c)", 7);
        y.grow();
        due("the item", all(y), "(a+b/c) caret 7 selected 1 from 6");
        y.grow();
        due("the fraction", all(y), "(a+b/c) caret 8 selected 1 from 3");
        y.grow();
        due("the row", all(y), "(a+b/c) caret 8 selected 3 from 1");
        y.grow();
        due("the parentheses", all(y), "(a+b/c) caret 9 selected 1 from 0");
        sentence("What it is", "templates that take the selection in, structures that are dissolved, a clipboard");
        y.copy();
        y.wrap(4);
        due("taken in", linear(y), "r((a+b/c))");
        y.moveTo(2);
        y.backspace();
        due("dissolved", linear(y), "r(a+b/c)");
        y.moveTo(0);
        y.paste();
        due("from the clipboard", linear(y), "(a+b/c)r(a+b/c)");
        sentence("What it is", "and a drawing made of characters.");
        due("drawn", drawn(loaded("(a+b/c)")), "(  b)|(a+-)|(  c)|");
    }

    private static void formulas() {
        sentence("FORMULAS", "A formula is a row, the main row.");
        FormulaEditor x = loaded("ab/c()");
        due("the rows' kinds", parts(x, 3), "0 0 1 1 1 1 0 5 0");
        due("its items", x.place(0, 2), 3);
        sentence("FORMULAS", "An item is a symbol or a structure.");
        due("the items behind the places", parts(x, 5), (int) 'a' + " 1 " + (int) 'b' + " -9 " + (int) 'c' + " -9 5 -9 -9");
        sentence("FORMULAS", "kind 1, fraction: slot 0 is the numerator, slot 1 the denominator; - kind 2, superscript: one slot; "
            + "- kind 3, subscript: one slot; - kind 4, root: one slot; - kind 5, parentheses: one slot.");
        for (int kind = 1; kind <= 5; kind++) {
            FormulaEditor y = loaded(KINDS[kind - 1]);
            due("kind of " + KINDS[kind - 1], y.place(0, 5), kind);
            due("slots of " + KINDS[kind - 1], parts(y, 4), kind == 1 ? "0 0 0 1 1 0" : "0 0 0 0");
            FormulaEditor z = loaded("a");
            z.extend(true);
            z.wrap(kind);
            due("wrap(" + kind + ")", linear(z), kind == 1 ? "a/()" : KINDS[kind - 1]);
        }
    }

    private static void caret() {
        sentence("CARET", "A place is before the first item of a row, between two items, or behind the last one");
        due("in one row", loaded("abc").about(1), 4);
        due("in four rows", loaded("a+b/c(d)").about(1), 4 + 1 + 2 + 2 + 2);
        sentence("CARET", "The places of a row are numbered in the following order, and those of the whole formula are those of the "
            + "main row:");
        FormulaEditor x = loaded("a+b/c(d)");
        due("items before the places", parts(x, 1), "0 1 2 0 1 0 1 3 0 1 4");
        sentence("CARET", "The caret is at a place; its row is the row of this place.");
        String[] typed = {"?a+b/c(d)", "a?+b/c(d)", "a+?b/c(d)", "a+(?b)/c(d)", "a+(b?)/c(d)", "a+b/(?c)(d)", "a+b/(c?)(d)",
            "a+b/c?(d)", "a+b/c(?d)", "a+b/c(d?)", "a+b/c(d)?"};
        for (int place = 0; place < typed.length; place++) {
            FormulaEditor y = at("a+b/c(d)", place);
            due("the caret's place", y.about(2), place);
            y.type('.');
            due("typed at place " + place, linear(y), typed[place].replace('?', '.'));
        }
    }

    private static void linearText() {
        sentence("LINEAR TEXT", "With the text of a slot being that of its row, the other texts are:");
        for (String text : new String[] {"r(a+b^c)", "(a+b^c)", "^(a+b^c)", "_(a+b^c)", "(a+b^c)/(a+b^c)", "r((^(a/b)))"}) {
            due("text", linear(loaded(text)), text);
        }
        sentence("LINEAR TEXT", "superscript and subscript: the character ^ or _, and the base of the slot");
        FormulaEditor x = new FormulaEditor();
        x.wrap(2);
        x.type('a');
        x.moveBy(1);
        x.wrap(3);
        x.type('b');
        due("both scripts", linear(x), "^a_b");
        sentence("LINEAR TEXT", "Linear texts are read as follows.");
        FormulaEditor y = loaded("^a_b");
        due("the kinds that are read", y.place(0, 5) + " " + y.place(3, 5), "2 3");
    }

    private static void drawing() {
        sentence("DRAWING", "A row is drawn as a box of characters with a width, a number of lines above its base line, and a "
            + "number of lines below it;");
        // lines above, on and below the base line
        String[] texts = {"a", "a^b", "a_b", "a/b", "a/b/c", "r(a)_b"};
        int[][] lines = {{0, 1, 0}, {1, 1, 0}, {0, 1, 1}, {1, 1, 1}, {3, 1, 1}, {1, 1, 1}};
        for (int i = 0; i < texts.length; i++) {
            FormulaEditor x = loaded(texts[i]);
            due("lines above in " + texts[i], x.drawing(2), lines[i][0]);
            due("lines in " + texts[i], x.drawing(1), lines[i][0] + lines[i][1] + lines[i][2]);
        }
        due("width", loaded("a/(bcd)").drawing(0), 3);
    }

    private static void exceptions() {
        sentence("EXCEPTIONS", "IllegalArgumentException means that another argument is out of its range.");
        FormulaEditor x = loaded("ab");
        due("append", answer(() -> x.append(256)), ARGUMENT);
        due("about", answer(() -> x.about(6)), ARGUMENT);
        due("place", answer(() -> x.place(0, 6)), ARGUMENT);
        due("selection", answer(() -> x.selection(3)), ARGUMENT);
        due("moveBy", answer(() -> x.moveBy(201)), ARGUMENT);
        due("type", answer(() -> x.type('r')), ARGUMENT);
        due("wrap", answer(() -> x.wrap(6)), ARGUMENT);
        due("replace", answer(() -> x.replace('a', 'r')), ARGUMENT);
        due("drawing", answer(() -> x.drawing(3)), ARGUMENT);
        due("runScript", answer(() -> x.runScript(5, 0)), ARGUMENT);
        due("simulate", answer(() -> x.simulate(0, 61)), ARGUMENT);
        sentence("EXCEPTIONS", "\"too large\" means that the formula would have more than 60 items or a row with a level greater "
            + "than 5.");
        FormulaEditor full = symbols(60);
        due("type", answer(() -> full.type('a')), STATE);
        due("wrap", answer(() -> full.wrap(1)), STATE);
        due("load", answer(() -> withText("a".repeat(61)).load()), STATE);
        FormulaEditor deep = copying("((((()))))", 4, 6);
        due("copied", deep.about(5), 1);
        deep.moveTo(5);
        due("paste", answer(deep::paste), STATE);
        due("wrap", answer(() -> deep.wrap(1)), STATE);
        due("load", answer(() -> withText("(((((())))))").load()), STATE);
    }

    // ---- the promises

    private static void text() {
        sentence("Promise 2", "Appends a character to the text buffer.");
        FormulaEditor x = new FormulaEditor();
        x.append('a');
        x.append('b');
        x.load();
        due("behind what is there", linear(x), "ab");
        due("the formula alone does not change", answer(() -> x.append('c')), 3);
        due("it", linear(x), "ab");
    }

    private static void whatThereIs() {
        FormulaEditor x = copying("(a)/()b", 0, 4);
        x.moveTo(2);
        sentence("Promise 6", "Returns that number.");
        int[] about = {3, 6, 2, 1, 1, 2};
        for (int what = 0; what < about.length; what++) {
            due("about(" + what + ")", x.about(what), about[what]);
        }
        sentence("Promise 7", "Tells about a place.");
        // 0 [ 1 a 2 | 3 ] 4 b 5: 1 is before the a in the numerator
        int[] place = {1, 0, 1, 1, 0, 'a'};
        for (int what = 0; what < place.length; what++) {
            due("place(1, " + what + ")", x.place(1, what), place[what]);
        }
        sentence("Promise 8", "Tells about the selection.");
        x.moveTo(5);
        x.grow();
        x.grow();
        int[] selection = {2, 3, 0};
        for (int what = 0; what < selection.length; what++) {
            due("selection(" + what + ")", x.selection(what), selection[what]);
        }
        sentence("Promise 10", "Returns its code.");
        String text = "a/()b";
        for (int i = 0; i < text.length(); i++) {
            due("linearAt(" + i + ")", x.linearAt(i), (int) text.charAt(i));
        }
    }

    private static void moving() {
        sentence("Promise 12", "Returns the place then.");
        FormulaEditor x = at("a/b", 1);
        due("to the right", x.moveBy(3), 4);
        due("to the left", x.moveBy(-2), 2);
        due("the caret", x.about(2), 2);
        sentence("Promise 13", "up : true for up, false for down");
        due("down", x.moveVertically(false), 4);
        due("the caret", x.about(2), 4);
        due("up", x.moveVertically(true), 2);
        due("the caret", x.about(2), 2);
        sentence("Promise 13", "Returns the place then; NONE if nothing happens.");
        due("up again", x.moveVertically(true), NONE);
        due("the caret", x.about(2), 2);
        sentence("Promise 11", "moving and selecting; these are no actions");
        FormulaEditor y = loaded("a^b");
        y.moveTo(1);
        y.moveVertically(true);
        y.moveBy(1);
        y.extend(false);
        y.grow();
        y.copy();
        due("undo", answer(y::undo), STATE);
    }

    private static void selecting() {
        sentence("Promise 14", "Extends the selection by one item:");
        FormulaEditor x = at("abcd", 2);
        due("one", x.extend(true), 1);
        due("two", x.extend(false), 2);
        due("three", x.extend(true), 3);
        due("all", all(x), "abcd caret 4 selected 3 from 1");
        sentence("Promise 15", "Lets the selection grow.");
        due("to the row", x.grow(), 4);
        due("all", all(x), "abcd caret 4 selected 4 from 0");
    }

    private static void typing() {
        sentence("Promise 17", "Returns the number of items then.");
        FormulaEditor x = at("a/b", 1);
        due("type in a slot", x.type('c'), 4);
        x.moveTo(0);
        x.extend(true);
        due("type in place of a structure", x.type('d'), 1);
        sentence("Promise 18", "There is no selection then. - kind : kind, 1 to 5 Returns the place of the caret then.");
        for (int kind = 1; kind <= 5; kind++) {
            FormulaEditor y = selecting("abc", 1, 3);
            due("wrap of a selection", y.wrap(kind), 5);
            due("the caret", y.about(2), 5);
            due("the selection", y.selection(0), 0);
            FormulaEditor z = at("abc", 2);
            due("wrap of nothing", z.wrap(kind), 3);
            due("the caret", z.about(2), 3);
            due("the selection", z.selection(0), 0);
        }
        sentence("Promise 20", "Returns the number of items then.");
        FormulaEditor z = copying("a/b+", 0, 5);
        z.moveTo(6);
        due("paste", z.paste(), 7);
        due("paste again", z.paste(), 10);
        z.grow();
        due("paste in place of one item", z.paste(), 10);
    }

    private static void deletingAndReplacing() {
        sentence("Promise 19", "Deletes backwards.");
        FormulaEditor x = at("ab/c", 6);
        due("into the fraction", x.backspace(), 0);
        due("then", all(x), "ab/c caret 5 selected 0 from 5");
        due("the symbol before", x.backspace(), 1);
        due("then", all(x), "ab/() caret 4 selected 0 from 4");
        due("the fraction dissolves", x.backspace(), 1);
        due("then", all(x), "ab caret 2 selected 0 from 2");
        due("the symbol before", x.backspace(), 1);
        due("and the last one", x.backspace(), 1);
        due("then", all(x), " caret 0 selected 0 from 0");
        sentence("Promise 21", "Replaces each symbol of a kind by another one, in all rows.");
        FormulaEditor y = at("a+a/(a^a)-b", 3);
        due("replace", y.replace('a', 'b'), 4);
        due("then", all(y), "b+b/b^b-b caret 3 selected 0 from 3");
    }

    private static void drawn() {
        sentence("Promise 23", "Returns a number of the drawing of the main row.");
        FormulaEditor x = at("a+r(b/c)", 6);
        due("width", x.drawing(0), 4);
        due("lines", x.drawing(1), 4);
        due("above", x.drawing(2), 2);
        sentence("Promise 24", "Returns a character of the drawing of the main row.");
        String[] lines = {"   _", "  Vb", "a+V-", "  Vc"};
        for (int line = 0; line < lines.length; line++) {
            for (int column = 0; column < lines[line].length(); column++) {
                due("drawn(" + column + ", " + line + ")", x.drawn(column, line), (int) lines[line].charAt(column));
            }
        }
    }

    private static void scripts() {
        sentence("Promise 25", "A script has 1 to 4 commands; each is a group of four decimal digits d1 d2 d3 d4, and the first "
            + "command is the highest group of the number.");
        FormulaEditor x = new FormulaEditor();
        due("one command", x.runScript(1, 1097), NONE);
        due("two commands", x.runScript(2, 1097_7001), NONE);
        due("three commands", x.runScript(3, 1097_2001_7002L), NONE);
        due("four commands", x.runScript(4, 1097_2001_1098_7003L), NONE);
        due("the same ones in another order", x.runScript(4, 7003_1097_2001_1098L), 0);
        due("as four commands the group 0000 is the first", x.runScript(4, 1097_2001_1098L), 0);
        sentence("Promise 25", "script : the commands, a number of at most 4 * n digits (0 or more)");
        due("16 digits", answer(() -> x.runScript(4, 1097_1097_1097_1097L)), NONE);
        due("17 digits", answer(() -> x.runScript(4, 1_1097_1097_1097_1097L)), ARGUMENT);
        due("12 digits for two commands", answer(() -> x.runScript(2, 1097_1097_1097L)), ARGUMENT);
        due("0", answer(() -> x.runScript(1, 0)), 0);
    }

    private static void simulations() {
        sentence("Promise 26", "A long x starts as the seed. Each round first replaces x by x * 6364136223846793005L + "
            + "1442695040888963407L (with long overflow), and r = (int) (x >>> 33) is computed. With q = r / 8 % 64, the round is: "
            + "if r % 8 is 0, 1 or 2, the symbol with the code 97 + q % 17 is typed; if it is 3 or 4, wraps with kind 1 + q % 5; "
            + "if it is 5, the caret is moved by q - 32 places; if it is 6, deletes backwards; if it is 7, lets the selection grow.");
        // each seed is the one that makes r the wanted number in the first round
        long[] rounds = {0, 3 + 8 * 3, 5, 6, 7, 4 + 8 * 4, 3, 2 + 8 * 16};
        int[] fromAB = {3003, 3005, 2002, 1001, 2002, 3004, 3007, 3003};
        for (int i = 0; i < rounds.length; i++) {
            due("r " + rounds[i], at("ab", 2).simulate(before(rounds[i] << 33), 1), fromAB[i]);
        }
        movesInSimulations();
    }

    private static void movesInSimulations() {
        sentence("Promise 26", "if it is 5, the caret is moved by q - 32 places");
        String symbols = "a".repeat(40);
        due("by 32 to the left", movedAndDeleted(symbols, 32, 0), 40);
        due("by 32 to the left", movedAndDeleted(symbols, 33, 0), 39);
        due("by 1 to the left", movedAndDeleted(symbols, 1, 31), 40);
        due("by 1 to the left", movedAndDeleted(symbols, 2, 31), 39);
        due("not at all", movedAndDeleted(symbols, 0, 32), 40);
        due("not at all", movedAndDeleted(symbols, 1, 32), 39);
        due("by 1 to the right", movedAndDeleted(symbols, 0, 33), 39);
        // behind the parentheses nothing is removed, beside it a symbol is
        String behindParentheses = "a".repeat(28) + "(b)cc";
        due("by 31 to the right", movedAndDeleted(behindParentheses, 0, 63), 32);
        due("by 30 to the right", movedAndDeleted(behindParentheses, 0, 62), 31);
        due("by 31 to the right", movedAndDeleted(behindParentheses, 1, 63), 31);
    }

    /** How many items are left when the caret has been moved by q - 32 places and then deleted backwards. */
    private static int movedAndDeleted(String text, int place, int q) {
        long first = 5L + 8 * q << 33;
        while ((next(first) >>> 33) % 8 != 6) {
            first++;
        }
        return at(text, place).simulate(before(first), 2) / 1000;
    }

    private static long next(long x) {
        return x * 6364136223846793005L + 1442695040888963407L;
    }

    private static long before(long x) {
        return (x - 1442695040888963407L) * inverse(6364136223846793005L);
    }

    /** The number whose product with an odd one is 1, by Newton's steps. */
    private static long inverse(long odd) {
        long found = odd;
        for (int i = 0; i < 6; i++) {
            found *= 2 - odd * found;
        }
        return found;
    }

    private static void saveSlots() {
        sentence("Promise 28", "Returns the number of items then.");
        FormulaEditor x = loaded("a/b+c");
        due("save", x.save(1), 5);
        x.wrap(5);
        x.type('d');
        due("save", x.save(0), 7);
        due("restore", x.restore(1), 5);
        due("then", all(x), "a/b+c caret 0 selected 0 from 0");
        due("restore of the other", x.restore(0), 7);
        due("then", all(x), "(d)a/b+c caret 2 selected 0 from 2");
        sentence("Not promised", "Nothing is promised beyond the answers and state changes described above");
        due("no action is remembered", answer(x::undo), STATE);
    }
}
