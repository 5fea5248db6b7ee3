/**
 * The sections of the document's description, sentence by sentence: for each one that names a
 * boundary case a test of its own.
 */
public final class DescriptionBoundaries extends Kit {
    private static final String LETTERS_AND_DIGITS = "abcdefghijklmnopqstuvwxyz0123456789";
    /** How a slot is opened in a text by the kinds with one slot, from kind 2 on. */
    private static final String[] OPENINGS = {"^(", "_(", "r(", "("};

    public static void main(String[] args) {
        formulas();
        caret();
        selection();
        writing();
        reading();
        drawing();
        actionsAndUndo();
        exceptions();
        fiveHundredAndTwelveCalls();
        finish("the boundaries of the description hold");
    }

    // ---- FORMULAS

    private static void formulas() {
        rowsMayBeEmpty();
        symbolsAndNoOthers();
        oneOrTwoSlots();
        numeratorAndDenominator();
        levels();
        sixtyItemsByLoad();
        sixtyItemsByActions();
        sixtyItemsInPlaceOfASelection();
        levelFiveByLoad();
        levelFiveByWrap();
        levelFiveByWrapOfASelection();
        levelFiveByPaste();
        newObject();
    }

    private static void rowsMayBeEmpty() {
        sentence("FORMULAS", "A row is a sequence of items, which may be empty.");
        due("items of an empty formula", loaded("").about(0), 0);
        due("text of an empty formula", linear(loaded("")), "");
        for (String text : new String[] {"()/a", "a/()", "^()", "_()", "r()", "()"}) {
            FormulaEditor x = at(text, text.equals("a/()") ? 3 : 1);
            due("items of the empty slot in " + text, x.place(x.about(2), 2), 0);
        }
    }

    private static void symbolsAndNoOthers() {
        sentence("FORMULAS", "A symbol is one of the characters a to z except r, 0 to 9, + - * = , and the full stop.");
        for (int c = -2; c <= 300; c++) {
            int code = c;
            boolean isSymbol = c >= 'a' && c <= 'z' && c != 'r' || c >= '0' && c <= '9' || c == '+' || c == '-' || c == '*'
                || c == '=' || c == ',' || c == '.';
            due("type(" + c + ")", answer(() -> new FormulaEditor().type(code)), isSymbol ? (Object) 1 : ARGUMENT);
        }
    }

    private static void oneOrTwoSlots() {
        sentence("FORMULAS", "A structure has a kind and one or two rows, its slots");
        for (int kind = 1; kind <= 5; kind++) {
            FormulaEditor x = new FormulaEditor();
            x.wrap(kind);
            int slots = kind == 1 ? 2 : 1;
            due("slots of kind " + kind, x.about(4), slots);
            due("places with kind " + kind, x.about(1), 2 + slots);
            for (int slot = 0; slot < slots; slot++) {
                due("kind of slot " + slot, x.place(1 + slot, 3), kind);
                due("number of slot " + slot, x.place(1 + slot, 4), slot);
            }
        }
    }

    private static void numeratorAndDenominator() {
        sentence("FORMULAS", "slot 0 is the numerator, slot 1 the denominator");
        // 0 [ 1 a 2 | 3 b 4 ] 5
        FormulaEditor x = loaded("a/b");
        due("item of slot 0", x.place(1, 5), (int) 'a');
        due("item of slot 1", x.place(3, 5), (int) 'b');
        due("uppermost line", x.drawn(0, 0), (int) 'a');
        due("lowest line", x.drawn(0, 2), (int) 'b');
        x.moveTo(3);
        due("up from the denominator", x.moveVertically(true), 1);
        due("up from the numerator", x.moveVertically(true), NONE);
    }

    private static void levels() {
        sentence("FORMULAS",
            "The level of the main row is 0; the level of a slot is one more than that of the row in which its structure is.");
        FormulaEditor x = loaded("((((()))))");
        for (int place = 0; place <= 10; place++) {
            due("level at " + place, x.place(place, 0), Math.min(place, 10 - place));
        }
        // 0 [ 1 a 2 | 3 [ 4 b 5 | 6 c 7 ] 8 ] 9
        int[] levels = {0, 1, 1, 1, 2, 2, 2, 2, 1, 0};
        FormulaEditor y = loaded("a/(b/c)");
        for (int place = 0; place < levels.length; place++) {
            due("level in a/(b/c) at " + place, y.place(place, 0), levels[place]);
        }
    }

    private static void loads(String text, Object want) {
        due("load of " + text, answer(() -> withText(text).load()), want);
    }

    private static void sixtyItemsByLoad() {
        sentence("FORMULAS", "A formula has at most 60 items (symbols and structures in all rows)");
        loads("a".repeat(60), 60);
        loads("a".repeat(61), STATE);
        loads("()".repeat(60), 60);
        loads("()".repeat(59) + "aa", STATE);
        loads("(" + "a".repeat(59) + ")", 60);
        loads("(" + "a".repeat(60) + ")", STATE);
        loads("(" + "a".repeat(29) + ")/(" + "b".repeat(30) + ")", 60);
        loads("(" + "a".repeat(30) + ")/(" + "b".repeat(30) + ")", STATE);
        loads("^a".repeat(30), 60);
        loads("^a".repeat(30) + "b", STATE);
        loads("a".repeat(120), STATE);
    }

    private static void sixtyItemsByActions() {
        sentence("FORMULAS", "A formula has at most 60 items (symbols and structures in all rows)");
        due("type the 60th", answer(() -> symbols(59).type('b')), 60);
        due("type the 61st", answer(() -> symbols(60).type('b')), STATE);
        for (int kind = 1; kind <= 5; kind++) {
            int chosen = kind;
            due("wrap as the 60th", answer(() -> symbols(59).wrap(chosen)), 60);
            due("wrap as the 61st", answer(() -> symbols(60).wrap(chosen)), STATE);
        }
        FormulaEditor x = copying("(" + "a".repeat(29) + ")", 0, 31);
        x.moveTo(1);
        due("paste 30 to 30 in a slot", answer(x::paste), 60);
        due("paste 30 to 60", answer(x::paste), STATE);
        FormulaEditor y = copying("a".repeat(30), 0, 30);
        y.moveTo(30);
        y.type('b');
        due("paste 30 to 31", answer(y::paste), STATE);
    }

    private static void sixtyItemsInPlaceOfASelection() {
        sentence("FORMULAS", "A formula has at most 60 items (symbols and structures in all rows)");
        FormulaEditor x = symbols(60);
        x.grow();
        due("type in place of one of 60", answer(() -> x.type('b')), 60);
        FormulaEditor y = symbols(60);
        y.grow();
        due("wrap one of 60", answer(() -> y.wrap(5)), STATE);
        FormulaEditor z = copying("ab" + "c".repeat(57), 0, 2);
        z.moveTo(59);
        z.extend(false);
        due("paste 2 in place of one of 59", answer(z::paste), 60);
        z.extend(false);
        due("paste 2 in place of one of 60", answer(z::paste), STATE);
        z.extend(false);
        due("paste 2 in place of 2 of 60", answer(z::paste), 60);
    }

    private static void levelFiveByLoad() {
        sentence("FORMULAS", "no row with a level greater than 5");
        for (String opening : OPENINGS) {
            loads(opening.repeat(5) + ")".repeat(5), 5);
            loads(opening.repeat(6) + ")".repeat(6), STATE);
        }
        loads("a/b/c/d/e/f", 11);
        loads("a/b/c/d/e/f/g", STATE);
        loads("a/(b/(c/(d/(e/f))))", 11);
        loads("a/(b/(c/(d/(e/(f/g)))))", STATE);
        loads("(^(_(r(a/b))))", 7);
        loads("(^(_(r(a/b^c))))", STATE);
        loads("a(((((b)))))c(((((d)))))e", 15);
        loads("a(((((b)))))c((((((d))))))e", STATE);
    }

    private static void levelFiveByWrap() {
        sentence("FORMULAS", "no row with a level greater than 5");
        for (int kind = 1; kind <= 5; kind++) {
            int chosen = kind;
            FormulaEditor x = new FormulaEditor();
            for (int level = 1; level <= 5; level++) {
                due("wrap(" + kind + ") to level " + level, answer(() -> x.wrap(chosen)), level);
            }
            due("greatest level", x.about(3), 5);
            due("wrap(" + kind + ") to level 6", answer(() -> x.wrap(chosen)), STATE);
            due("a symbol on level 5", answer(() -> x.type('a')), 6);
        }
        // 0 [ 1 a 2 | 3 [ 4 b 5 | 6 [ 7 c 8 | 9 [ 10 d 11 | 12 [ 13 e 14 | 15 f 16
        FormulaEditor y = at("a/(b/(c/(d/(e/f))))", 15);
        due("in a denominator on level 5", answer(() -> y.wrap(2)), STATE);
        y.moveTo(12);
        due("in a denominator on level 4", answer(() -> y.wrap(2)), 13);
    }

    private static void levelFiveByWrapOfASelection() {
        sentence("FORMULAS", "no row with a level greater than 5");
        for (int kind = 1; kind <= 5; kind++) {
            int chosen = kind;
            due("items that reach 4 levels down", answer(() -> selecting("((((a))))", 0, 9).wrap(chosen)), 11);
            due("items that reach 5 levels down", answer(() -> selecting("(((((a)))))", 0, 11).wrap(chosen)), STATE);
            due("a symbol on level 4", answer(() -> selecting("((((a))))", 4, 5).wrap(chosen)), 7);
            due("a symbol on level 5", answer(() -> selecting("(((((a)))))", 5, 6).wrap(chosen)), STATE);
            due("on level 2, 2 levels down", answer(() -> selecting("((a((b))))", 3, 8).wrap(chosen)), 10);
            due("on level 2, 3 levels down", answer(() -> selecting("((a(((b)))))", 3, 10).wrap(chosen)), STATE);
        }
        due("the deepest of the selected items is not the last", answer(() -> selecting("(((((a)))))b", 0, 12).wrap(5)),
            STATE);
    }

    private static void levelFiveByPaste() {
        sentence("FORMULAS", "no row with a level greater than 5");
        pastes("5 levels down", 0, 11, 0, 12);
        pastes("5 levels down", 0, 11, 1, STATE);
        pastes("2 levels down", 3, 8, 3, 9);
        pastes("2 levels down", 3, 8, 4, STATE);
        pastes("1 level down", 4, 7, 4, 8);
        pastes("1 level down", 4, 7, 5, STATE);
        pastes("a symbol", 5, 6, 5, 7);
        FormulaEditor y = copying("()(((((a)))))", 0, 2);
        y.moveTo(7);
        y.extend(true);
        due("paste in place of a symbol on level 5", answer(y::paste), STATE);
        y.moveTo(6);
        y.extend(true);
        due("paste in place of a structure on level 4", answer(y::paste), 6);
    }

    /** Copies what is between two places of (((((a))))) and pastes it at a place. */
    private static void pastes(String what, int from, int to, int place, Object want) {
        FormulaEditor x = copying("(((((a)))))", from, to);
        x.moveTo(place);
        due(what + " pasted on level " + place, answer(x::paste), want);
    }

    private static void newObject() {
        sentence("FORMULAS", "A new object has an empty formula and an empty clipboard; the caret is in the main row.");
        FormulaEditor x = new FormulaEditor();
        due("items", x.about(0), 0);
        due("items in the clipboard", x.about(5), 0);
        due("level of the caret's row", x.place(x.about(2), 0), 0);
        due("kind around the caret", x.place(x.about(2), 3), 0);
    }

    // ---- CARET

    private static void caret() {
        onePlaceInAnEmptyRow();
        orderOfPlaces();
        placesBeginWithZero();
    }

    private static void onePlaceInAnEmptyRow() {
        sentence("CARET", "(a row without items has one place)");
        due("the main row", loaded("").about(1), 1);
        due("a slot", loaded("()").about(1), 3);
        due("two slots", loaded("()/()").about(1), 4);
        due("the deepest slot", loaded("((((()))))").about(1), 11);
    }

    private static void orderOfPlaces() {
        sentence("CARET", "first the place before its first item; then, for each item from left to right, all places of its "
            + "slots (slot 0 first), and then the place behind the item.");
        // 0 a 1 ( 2 [ 3 b 4 | 5 c 6 ] 7 ) 8 d 9 ^ 10 11: kind and slot around, items before
        int[][] places = {{0, 0, 0}, {0, 0, 1}, {5, 0, 0}, {1, 0, 0}, {1, 0, 1}, {1, 1, 0}, {1, 1, 1}, {5, 0, 1},
            {0, 0, 2}, {0, 0, 3}, {2, 0, 0}, {0, 0, 4}};
        FormulaEditor x = loaded("a(b/c)d^()");
        due("places", x.about(1), places.length);
        for (int place = 0; place < places.length; place++) {
            due("kind at " + place, x.place(place, 3), places[place][0]);
            due("slot at " + place, x.place(place, 4), places[place][1]);
            due("items before " + place, x.place(place, 1), places[place][2]);
        }
    }

    private static void placesBeginWithZero() {
        sentence("CARET", "The place numbers begin with 0.");
        for (String text : new String[] {"", "a", "()", "a/b", "(((((a)))))"}) {
            FormulaEditor x = loaded(text);
            int last = x.about(1) - 1;
            due("the first place of " + text, x.place(0, 1), 0);
            due("before it", answer(() -> x.place(-1, 1)), INDEX);
            due("the last place", x.place(last, 1), x.place(0, 2));
            due("behind it", answer(() -> x.place(last + 1, 1)), INDEX);
        }
    }

    // ---- SELECTION

    private static void selection() {
        noneAtFirst();
        itemsThatFollowOneAnother();
        caretBehindTheLast();
        movingEndsIt();
    }

    private static void noneAtFirst() {
        sentence("SELECTION", "There is a selection or none.");
        FormulaEditor x = new FormulaEditor();
        due("of a new object", x.selection(0), 0);
        x.type('a');
        due("behind a symbol", x.selection(0), 0);
        x.grow();
        due("after grow", x.selection(0), 1);
    }

    private static void itemsThatFollowOneAnother() {
        sentence("SELECTION", "A selection consists of one or more items of the row of the caret that follow one another");
        due("one", selecting("abc", 1, 2).selection(0), 1);
        due("all of 60", selecting("a".repeat(60), 0, 60).selection(0), 60);
        due("none more than a slot has", answer(() -> selecting("a(bc)d", 2, 4).extend(true)), STATE);
        due("nor before it", answer(() -> selecting("a(bc)d", 2, 4).extend(false)), STATE);
        // 0 [ 1 a 2 | 3 b 4 ] 5
        due("nor from numerator to denominator", answer(() -> selecting("a/b", 1, 2).extend(true)), STATE);
        due("nor back", answer(() -> selecting("a/b", 3, 4).extend(false)), STATE);
    }

    private static void caretBehindTheLast() {
        sentence("SELECTION", "the caret is behind the last one of them");
        FormulaEditor x = at("abc", 1);
        x.extend(false);
        due("extended to the left", x.about(2), 1);
        x.extend(true);
        due("extended to the right", x.about(2), 2);
        x.grow();
        due("grown", x.about(2), 3);
    }

    private static void ends(String what, FormulaEditor x, Call call) {
        int before = x.selection(0);
        due(what + ", before", before > 0, true);
        call.made();
        due(what, x.selection(0), 0);
        due(what + ", the place before it", x.selection(2), x.about(2));
    }

    private static void movingEndsIt() {
        sentence("SELECTION", "Methods that move the caret end the selection.");
        FormulaEditor x = selecting("ab", 0, 2);
        ends("moveTo another place", x, () -> x.moveTo(0));
        FormulaEditor y = selecting("ab", 0, 2);
        ends("moveTo the same place", y, () -> y.moveTo(2));
        FormulaEditor z = selecting("abc", 0, 2);
        ends("moveBy 1", z, () -> z.moveBy(1));
        FormulaEditor u = selecting("abc", 0, 2);
        ends("moveBy 0", u, () -> u.moveBy(0));
        FormulaEditor v = selecting("abc", 0, 3);
        ends("moveBy at the last place", v, () -> v.moveBy(1));
        FormulaEditor w = selecting("a^b", 0, 1);
        ends("moveVertically", w, () -> w.moveVertically(true));
    }

    // ---- LINEAR TEXT, written

    private static void writing() {
        textOfARow();
        textOfASymbol();
        operandsInTheirOrder();
        plainOperands();
        bracketedOperands();
        plainBases();
        bracketedBases();
        blankBehindAFraction();
        noBlankElsewhere();
        rootsAndParentheses();
    }

    private static void textOfARow() {
        sentence("LINEAR TEXT", "The linear text of a row is made up of the texts of its items.");
        due("of no items", linear(new FormulaEditor()), "");
        due("of one item", linear(loaded("r(a)")), "r(a)");
        due("of each kind", linear(loaded("a()b/cr()d^e_f+")), "a()b/cr()d^e_f+");
        due("of 60 items", linear(symbols(60)), "a".repeat(60));
    }

    private static void operandsInTheirOrder() {
        sentence("LINEAR TEXT", "fraction: the operand of slot 0, the character /, and the operand of slot 1.");
        FormulaEditor x = new FormulaEditor();
        x.wrap(1);
        due("both slots empty", linear(x), "()/()");
        x.type('a');
        due("slot 1 empty", linear(x), "a/()");
        x.moveBy(1);
        x.type('b');
        due("both full", linear(x), "a/b");
        x.moveTo(2);
        x.backspace();
        due("slot 0 empty", linear(x), "()/b");
    }

    private static void textOfASymbol() {
        sentence("LINEAR TEXT", "The text of a symbol is the symbol.");
        FormulaEditor x = new FormulaEditor();
        typeAll(x, SYMBOLS);
        due("all symbols", linear(x), SYMBOLS);
    }

    private static void operand(String row, String want) {
        due("slot 0 of " + row, linear(loaded("(" + row + ")/z")), want + "/z");
        due("slot 1 of " + row, linear(loaded("z/(" + row + ")")), "z/" + want);
    }

    private static void plainOperands() {
        sentence("LINEAR TEXT", "The operand of a row is the text of the row if the row consists of an item that is a letter, a "
            + "digit, a root or parentheses, and any number of scripts (superscripts and subscripts) behind it");
        for (int i = 0; i < LETTERS_AND_DIGITS.length(); i++) {
            operand(LETTERS_AND_DIGITS.substring(i, i + 1), LETTERS_AND_DIGITS.substring(i, i + 1));
        }
        String[] plain = {"r()", "r(a+b)", "a^b", "a_b", "0^b", "9_()", "r(a)^b", "r()_(cd)", "()^a", "(a)_b", "(a+b)^c_d",
            "a^b_c^d", "a^b^b^b^b^b^b^b^b^b^b^b^b^b^b^b^b^b^b", "z^(a/b)"};
        for (String row : plain) {
            operand(row, row);
        }
    }

    private static void bracketedOperands() {
        sentence("LINEAR TEXT", "but not of parentheses alone; otherwise it is (, the text of the row, and ).");
        String[] others = {"()", "(a)", "((a))", "", "+", "-", "*", "=", ",", ".", "ab", "10", "a+", "+a", "a^bc", "a(b)",
            "(a)b", "(a)(b)", "r(a)b", "r(a)r(b)", "ar(b)", "a^b(c)", "^a", "_a", "^a^b", "+^a", "a/b", "a/b ^c", "a^b+"};
        for (String row : others) {
            operand(row, "(" + row + ")");
        }
    }

    private static void base(String row, String want) {
        due("superscript of " + row, linear(loaded("^(" + row + ")")), "^" + want);
        due("subscript of " + row, linear(loaded("x_(" + row + ")")), "x_" + want);
    }

    private static void plainBases() {
        sentence("LINEAR TEXT",
            "the base of the slot, which is the text of the row if it consists of a single letter, digit or root");
        for (int i = 0; i < LETTERS_AND_DIGITS.length(); i++) {
            base(LETTERS_AND_DIGITS.substring(i, i + 1), LETTERS_AND_DIGITS.substring(i, i + 1));
        }
        base("r()", "r()");
        base("r(a+b)", "r(a+b)");
    }

    private static void bracketedBases() {
        sentence("LINEAR TEXT", "otherwise it is (, the text of the row, and ). If the item");
        String[] others = {"", "+", "-", "*", "=", ",", ".", "()", "(a)", "ab", "10", "a^b", "a_b", "r(a)^b", "^a", "_()",
            "a/b", "r()r()", "r(a)b", "ar(b)"};
        for (String row : others) {
            base(row, "(" + row + ")");
        }
    }

    private static void blankBehindAFraction() {
        sentence("LINEAR TEXT", "If the item before the script, in the same row, is a fraction, there is a blank first.");
        for (int kind = 2; kind <= 3; kind++) {
            FormulaEditor x = new FormulaEditor();
            x.wrap(1);
            x.type('a');
            x.moveBy(1);
            x.type('b');
            x.moveBy(1);
            x.wrap(kind);
            x.type('c');
            x.moveBy(1);
            x.wrap(5 - kind);
            String scripts = kind == 2 ? "^c_()" : "_c^()";
            due("kind " + kind, linear(x), "a/b " + scripts);
            x.moveTo(0);
            x.extend(true);
            x.extend(true);
            x.wrap(4);
            due("in a slot", linear(x), "r(a/b " + scripts.substring(0, 2) + ")" + scripts.substring(2));
        }
    }

    private static void noBlankElsewhere() {
        sentence("LINEAR TEXT", "If the item before the script, in the same row, is a fraction, there is a blank first.");
        String[] same = {"^a", "_a", "a^b", "+^a", "^a^b", "(a/b)^c", "r(a/b)_c", "a/(^b)", "(^a)/b", "a/b(^c)", "a/br(_c)",
            "a/bc^d", "^(a/b)^c", "a/b+^c"};
        for (String text : same) {
            due("no blank", linear(loaded(text)), text);
        }
    }

    private static void rootsAndParentheses() {
        sentence("LINEAR TEXT", "root: r(, the text of the slot, and ).");
        for (String text : new String[] {"r()", "r(a)", "r(())", "r(r())", "r(a/b)", "r(^a)"}) {
            due("root", linear(loaded(text)), text);
        }
        sentence("LINEAR TEXT", "parentheses: (, the text of the slot, and ).");
        for (String text : new String[] {"()", "(a)", "(())", "(r())", "(a/b)", "(^a)"}) {
            due("parentheses", linear(loaded(text)), text);
        }
    }

    // ---- LINEAR TEXT, read

    private static void reading() {
        elements();
        blanks();
        symbolElements();
        chains();
        factors();
        scripts();
        bases();
        whoseScriptItIs();
        factorAlone();
        fractionsOfChains();
        slotsOfFactors();
        slotsOfScripts();
        textOf120();
        firstWrongCharacter();
        endsTooSoon();
        limitsDoNotMatter();
    }

    private static void errorAt(String text, int position) {
        due("error position of " + text, withText(text).errorPosition(), position);
    }

    /** Which characters end a linear text behind this, and which go on in one without ending it. */
    private static void next(String before, String ending, String goingOn) {
        for (int c = 0; c <= 255; c++) {
            int want = before.length();
            if (ending.indexOf(c) >= 0) {
                want = NONE;
            } else if (goingOn.indexOf(c) >= 0) {
                want = before.length() + 1;
            }
            errorAt(before + (char) c, want);
        }
    }

    /** Reads a text; its items, and the text that is written for them. */
    private static void reads(String text, int items, String again) {
        FormulaEditor x = withText(text);
        due("items of " + text, answer(x::load), items);
        due("formula of " + text, linear(x), again);
    }

    private static void elements() {
        sentence("LINEAR TEXT", "A text is a sequence of elements, which may be empty.");
        reads("", 0, "");
        reads("()", 1, "()");
        reads("r()", 1, "r()");
        reads("^()", 1, "^()");
        reads("()/()", 1, "()/()");
        sentence("LINEAR TEXT", "An element is a blank (which makes no item), one of the symbols + - * = , and the full stop, a "
            + "script, or a chain.");
        next("", SYMBOLS + " ", "^_(r");
        next("+", SYMBOLS + " ", "^_(r");
        next(" ", SYMBOLS + " ", "^_(r");
        next("a ", SYMBOLS + " ", "^_(r");
        next("(", ")", SYMBOLS + " ^_(r");
        next("r(", ")", SYMBOLS + " ^_(r");
        next("^(", ")", SYMBOLS + " ^_(r");
        next("(+", ")", SYMBOLS + " ^_(r");
        next("(a ", ")", SYMBOLS + " ^_(r");
    }

    private static void blanks() {
        sentence("LINEAR TEXT", "An element is a blank (which makes no item)");
        reads(" ", 0, "");
        reads(" ".repeat(120), 0, "");
        reads(" a  b ", 2, "ab");
        reads("( )", 1, "()");
        reads("r(  )", 1, "r()");
        reads("( a )/( b )", 3, "a/b");
        reads("^( a )", 2, "^a");
        errorAt("a /b", 2);
        errorAt("a/ b", 2);
        errorAt("a^ b", 2);
        errorAt("r ()", 1);
    }

    private static void symbolElements() {
        sentence("LINEAR TEXT", "one of the symbols + - * = , and the full stop");
        for (String symbol : new String[] {"+", "-", "*", "=", ",", "."}) {
            reads(symbol, 1, symbol);
            errorAt(symbol + "/a", 1);
            errorAt("a/" + symbol, 2);
            errorAt("^" + symbol, 1);
        }
    }

    private static void chains() {
        sentence("LINEAR TEXT", "A chain is one or more factors with / between them.");
        errorAt("a", NONE);
        errorAt("a/b", NONE);
        errorAt("a/".repeat(59) + "b", NONE);
        errorAt("/", 0);
        errorAt("/a", 0);
        errorAt("a//b", 2);
        errorAt("(/a)", 1);
        errorAt("(a/)", 3);
        next("a/", LETTERS_AND_DIGITS, "(r");
        next("a/b/", LETTERS_AND_DIGITS, "(r");
        next("a/b", SYMBOLS + " ", "^_(r/");
        next("(a/", "", LETTERS_AND_DIGITS + "(r");
    }

    private static void factors() {
        sentence("LINEAR TEXT", "A factor is a base and any number of scripts behind it.");
        next("a", SYMBOLS + " ", "^_(r/");
        next("a^b", SYMBOLS + " ", "^_(r/");
        next("a^b_c", SYMBOLS + " ", "^_(r/");
        next("()", SYMBOLS + " ", "^_(r/");
        next("()^b", SYMBOLS + " ", "^_(r/");
        next("()^()", SYMBOLS + " ", "^_(r/");
        next("r()", SYMBOLS + " ", "^_(r/");
        next("(a", ")", SYMBOLS + " ^_(r/");
        next("(a^b", ")", SYMBOLS + " ^_(r/");
        errorAt("a" + "^b".repeat(58) + "/c", NONE);
    }

    private static void scripts() {
        sentence("LINEAR TEXT", "A script is ^ or _ and a base.");
        for (String before : new String[] {"^", "_", "a^", "a_", "^b^", "a^b_", "a/b^", "+^"}) {
            next(before, LETTERS_AND_DIGITS, "(r");
        }
        next("(^", "", LETTERS_AND_DIGITS + "(r");
        next("(a_", "", LETTERS_AND_DIGITS + "(r");
    }

    private static void bases() {
        sentence("LINEAR TEXT", "A base is a letter (except r), a digit, r( and a text and ), or ( and a text and ).");
        for (String before : new String[] {"", "a", "+", "a/", "^", "a^", "(", "r("}) {
            next(before + "r", "", "(");
        }
        errorAt("r(a", 3);
        errorAt("(a", 2);
        errorAt("r(a)", NONE);
        errorAt("(a)", NONE);
        errorAt("(a))", 3);
        errorAt("r(a))", 4);
    }

    private static void whoseScriptItIs() {
        sentence("LINEAR TEXT", "A script behind a base, or behind a script of a factor, belongs to this factor.");
        reads("a^b/c", 5, "a^b/c");
        reads("a^b_c/d", 7, "a^b_c/d");
        reads("a/b^c", 5, "a/b^c");
        reads("a/b^c/d", 7, "(a/b^c)/d");
        reads("a/b ^c", 5, "a/b ^c");
        next("^b", SYMBOLS + " ", "^_(r");
        next("^b_c", SYMBOLS + " ", "^_(r");
        next("^()", SYMBOLS + " ", "^_(r");
        next("a ^b", SYMBOLS + " ", "^_(r");
        next("+^b", SYMBOLS + " ", "^_(r");
        next("(^b", ")", SYMBOLS + " ^_(r");
        next("(^(a/b)", ")", SYMBOLS + " ^_(r");
    }

    private static void factorAlone() {
        sentence("LINEAR TEXT", "The items of a factor are the item of its base and the scripts.");
        reads("a^b/c", 5, "a^b/c");
        reads("r()^b_c/d", 7, "r()^b_c/d");
        reads("a_()" + "_c".repeat(28) + "/d", 60, "a_()" + "_c".repeat(28) + "/d");
        sentence("LINEAR TEXT", "A factor alone makes these items in its row.");
        reads("a", 1, "a");
        reads("(a)", 2, "(a)");
        reads("()", 1, "()");
        reads("((a))", 3, "((a))");
        reads("(a)^b", 4, "(a)^b");
        reads("r(a)_b^c", 6, "r(a)_b^c");
    }

    private static void fractionsOfChains() {
        sentence("LINEAR TEXT", "A chain of two or more factors makes a fraction: of the first two factors, then of this "
            + "fraction and the next factor, and so on.");
        reads("a/b", 3, "a/b");
        reads("a/b/c", 5, "(a/b)/c");
        reads("a/b/c/d", 7, "((a/b)/c)/d");
        reads("(a/b)/c", 5, "(a/b)/c");
        reads("a/(b/c)", 5, "a/(b/c)");
        reads("a/b/c/d/e/f", 11, "((((a/b)/c)/d)/e)/f");
        reads("xa/b/cy", 7, "x(a/b)/cy");
        FormulaEditor x = loaded("a/b/c");
        due("the numerator of the last one is the first one", x.place(1, 5), 1);
    }

    private static void slotsOfFactors() {
        sentence("LINEAR TEXT", "The slot of a factor consists of its items; but if the factor is ( text ) without scripts, it "
            + "consists of the items of the text.");
        reads("(a)/(b)", 3, "a/b");
        reads("()/()", 1, "()/()");
        reads("(ab)/(cd)", 5, "(ab)/(cd)");
        reads("((a))/((b))", 5, "((a))/((b))");
        reads("(a)^c/b", 6, "(a)^c/b");
        reads("b/(a)^c", 6, "b/(a)^c");
        reads("r(a)/r(b)", 5, "r(a)/r(b)");
        reads("(a)/(b)/(c)", 5, "(a/b)/c");
        reads("((a)/(b))/((c)/(d))", 7, "(a/b)/(c/d)");
        reads("(a)b/(c)", 5, "(a)b/c");
    }

    private static void slotsOfScripts() {
        sentence("LINEAR TEXT", "The slot of a script consists of the item of its base; but if the base is ( text ), it consists "
            + "of the items of the text.");
        reads("^a", 2, "^a");
        reads("^(a)", 2, "^a");
        reads("^()", 1, "^()");
        reads("^(ab)", 3, "^(ab)");
        reads("^((a))", 3, "^((a))");
        reads("_r(a)", 3, "_r(a)");
        reads("_r()", 2, "_r()");
        reads("a_(b)^(c)/(d)", 7, "a_b^c/d");
        reads("a^b^c", 5, "a^b^c");
    }

    private static void textOf120() {
        sentence("LINEAR TEXT", "The object has a text buffer of at most 120 characters.");
        FormulaEditor x = withText("a".repeat(119));
        due("the 120th", answer(() -> x.append('b')), 120);
        due("the 121st", answer(() -> x.append('c')), STATE);
        due("the whole text is read", x.errorPosition(), NONE);
        due("its length", x.clearText(), 120);
    }

    private static void firstWrongCharacter() {
        sentence("LINEAR TEXT", "Its error position is the index of the first character that cannot stand at its place");
        errorAt(")", 0);
        errorAt("))", 0);
        errorAt("a))", 1);
        errorAt("a)/", 1);
        errorAt("a".repeat(119) + ")", 119);
        errorAt("a".repeat(118) + "))", 118);
        errorAt("(".repeat(59) + ")".repeat(61), 118);
        errorAt("(".repeat(119) + "/", 119);
        errorAt("r(".repeat(59) + ")/", 120);
        errorAt("^(".repeat(59) + ")/", 119);
    }

    private static void endsTooSoon() {
        sentence("LINEAR TEXT", "if the text ends too soon, it is the length of the text.");
        errorAt("(", 1);
        errorAt("r", 1);
        errorAt("^", 1);
        errorAt("a/", 2);
        errorAt("(".repeat(120), 120);
        errorAt("a/".repeat(60), 120);
        errorAt("a".repeat(119) + "r", 120);
        errorAt("^(".repeat(60), 120);
        errorAt("(".repeat(60) + ")".repeat(59), 119);
        errorAt("(".repeat(60) + ")".repeat(60), NONE);
        errorAt("r(".repeat(40) + ")".repeat(40), NONE);
    }

    private static void limitsDoNotMatter() {
        sentence("LINEAR TEXT", "(The limits of formulas do not matter for this.)");
        String[] tooLarge = {"a".repeat(61), "a".repeat(120), "((((((a))))))", "a/b/c/d/e/f/g", "(".repeat(60) + ")".repeat(60),
            "a/".repeat(59) + "b", "^(".repeat(40) + ")".repeat(40)};
        for (String text : tooLarge) {
            errorAt(text, NONE);
            loads(text, STATE);
        }
    }

    // ---- DRAWING

    private static void drawing() {
        nothingDrawn();
        boxesSideBySide();
        emptyRows();
        drawnSymbols();
        drawnFractions();
        drawnSuperscripts();
        drawnSubscripts();
        drawnRoots();
        drawnParentheses();
    }

    private static void drawnAs(String text, int above, String picture) {
        FormulaEditor x = loaded(text);
        due("lines above in " + text, x.drawing(2), above);
        due("drawing of " + text, drawn(x), picture);
    }

    private static void nothingDrawn() {
        sentence("DRAWING", "a blank is where nothing is drawn");
        FormulaEditor x = loaded("a^b");
        due("over the a", x.drawn(0, 0), 32);
        due("under the b", x.drawn(1, 1), 32);
    }

    private static void boxesSideBySide() {
        sentence("DRAWING", "The boxes of its items stand side by side, their base lines being the same; it has as many lines "
            + "above and below as the item that has the most.");
        drawnAs("a", 0, "a|");
        drawnAs("ab/cd", 1, " b |a-d| c |");
        drawnAs("a^bc_d", 1, " b  |a c |   d|");
        drawnAs("(a/b)^(c/d)e", 3, "   c |   - |(a)d |(-) e|(b)  |");
        drawnAs("a_(b/c)d/e", 1, "  d|a -| be| - | c |");
        drawnAs("a^b^(c/d)^e", 3, "  c |  - | bde|a   |");
    }

    private static void emptyRows() {
        sentence("DRAWING", "An empty row is the character ? on the base line.");
        drawnAs("", 0, "?|");
        drawnAs("()/()", 1, "?|-|?|");
        drawnAs("()/a", 1, "?|-|a|");
        drawnAs("a/()", 1, "a|-|?|");
        drawnAs("^()", 1, "?| |");
        drawnAs("_()", 0, " |?|");
        drawnAs("r()", 1, " _|V?|");
        drawnAs("()", 0, "(?)|");
        drawnAs("()a", 0, "(?)a|");
    }

    private static void drawnSymbols() {
        sentence("DRAWING", "A symbol: the symbol on the base line.");
        FormulaEditor x = new FormulaEditor();
        typeAll(x, SYMBOLS);
        due("all symbols", drawn(x), SYMBOLS + "|");
    }

    private static void drawnFractions() {
        sentence("DRAWING", "A fraction: as wide as its wider slot; on the base line only characters -; the box of slot 0 "
            + "directly above it and that of slot 1 directly below it, both moved to the right by (width of the fraction - "
            + "width of the slot) / 2, rounded down.");
        drawnAs("a/b", 1, "a|-|b|");
        drawnAs("a/(bc)", 1, "a |--|bc|");
        drawnAs("a/(bcd)", 1, " a |---|bcd|");
        drawnAs("a/(bcde)", 1, " a  |----|bcde|");
        drawnAs("(ab)/(cdefg)", 1, " ab  |-----|cdefg|");
        drawnAs("(bc)/a", 1, "bc|--|a |");
        drawnAs("(bcd)/a", 1, "bcd|---| a |");
        drawnAs("(bcde)/a", 1, "bcde|----| a  |");
        drawnAs("a^b/c_d", 2, " b|a |--|c | d|");
        drawnAs("a_b/c^d", 2, "a | b|--| d|c |");
        drawnAs("a/b/c", 3, "a|-|b|-|c|");
        drawnAs("a/(b/c)", 1, "a|-|b|-|c|");
    }

    private static void drawnSuperscripts() {
        sentence("DRAWING", "A superscript: the box of its slot directly above the base line, nothing below");
        drawnAs("^a", 1, "a| |");
        drawnAs("^(a/b)", 3, "a|-|b| |");
        drawnAs("^(a_b)", 2, "a | b|  |");
        drawnAs("^(a^b)", 2, " b|a |  |");
    }

    private static void drawnSubscripts() {
        sentence("DRAWING", "a subscript: directly below the base line, nothing above.");
        drawnAs("_a", 0, " |a|");
        drawnAs("_(a/b)", 0, " |a|-|b|");
        drawnAs("_(a^b)", 0, "  | b|a |");
        drawnAs("_(a_b)", 0, "  |a | b|");
    }

    private static void drawnRoots() {
        sentence("DRAWING", "A root: the box of its slot on the same base line, moved to the right by 1; one more line above, "
            + "which has the character _ over the box; in the first column the character V on all lines of the box of the slot.");
        drawnAs("r(a)", 1, " _|Va|");
        drawnAs("r(abc)", 1, " ___|Vabc|");
        drawnAs("r(a_b)", 1, " __|Va |V b|");
        drawnAs("r(a^b)", 2, " __|V b|Va |");
        drawnAs("r(r(a))", 2, " __|V _|VVa|");
        drawnAs("r(a)(b/c)", 1, " _(b)|Va(-)|  (c)|");
        drawnAs("r(a)b^(c/d)", 3, "   c|   -| _ d|Vab |");
        drawnAs("r((a)(b/c))", 2, " ______|V   (b)|V(a)(-)|V   (c)|");
    }

    private static void drawnParentheses() {
        sentence("DRAWING", "Parentheses: the box of the slot on the same base line, moved to the right by 1, with ( to the left "
            + "of each of its lines and ) to the right.");
        drawnAs("(a)", 0, "(a)|");
        drawnAs("(a_b)", 0, "(a )|( b)|");
        drawnAs("(a^b)", 1, "( b)|(a )|");
        drawnAs("(a)(b/c)", 1, "   (b)|(a)(-)|   (c)|");
        drawnAs("((a)b/c)", 1, "(   b)|((a)-)|(   c)|");
    }

    // ---- ACTIONS AND UNDO

    private static void actionsAndUndo() {
        eachIsAnAction();
        nothingElseIsAnAction();
        fourteenAreRemembered();
        allThatIsRemembered();
        whatIsNotRemembered();
        undoAndRestoreAreNone();
    }

    private static void action(String what, FormulaEditor x, Call call) {
        String before = all(x);
        call.made();
        due(what + " is one action", answer(x::undo), 0);
        due(what + " undone", all(x), before);
    }

    private static void eachIsAnAction() {
        sentence("ACTIONS AND UNDO", "Each call of one of them that does not throw an exception is an action.");
        FormulaEditor x = copying("ab/c()", 0, 1);
        action("type", x, () -> x.type('z'));
        action("wrap", x, () -> x.wrap(3));
        action("backspace of a selection", x, x::backspace);
        action("paste", x, x::paste);
        action("replace", x, () -> x.replace('a', 'b'));
        action("replace of nothing", x, () -> x.replace('y', 'z'));
        action("replace by the same", x, () -> x.replace('a', 'a'));
        x.moveTo(6);
        action("backspace that moves the caret", x, x::backspace);
        x.moveTo(8);
        action("backspace of an empty structure", x, x::backspace);
        x.moveTo(2);
        action("backspace that dissolves", x, x::backspace);
    }

    private static void nothingElseIsAnAction() {
        sentence("ACTIONS AND UNDO", "The methods in the section \"actions\" change the formula.");
        FormulaEditor x = loaded("a/b^c");
        x.moveTo(3);
        x.moveBy(1);
        x.moveVertically(true);
        x.extend(false);
        x.grow();
        x.copy();
        x.save(0);
        x.about(0);
        x.drawing(0);
        x.runScript(1, 1097);
        x.simulate(1, 60);
        x.append('a');
        x.errorPosition();
        x.clearText();
        due("undo after none of them", answer(x::undo), STATE);
    }

    private static void fourteenAreRemembered() {
        sentence("ACTIONS AND UNDO",
            "At most 14 of these are remembered; when one more is remembered, the oldest one is forgotten.");
        for (int actions = 0; actions <= 45; actions++) {
            FormulaEditor x = symbols(actions);
            int remembered = Math.min(14, actions);
            for (int left = remembered - 1; left >= 0; left--) {
                due("undo after " + actions, answer(x::undo), left);
            }
            due("one undo more after " + actions, answer(x::undo), STATE);
            due("the oldest after " + actions, x.about(0), actions - remembered);
        }
        FormulaEditor y = symbols(20);
        for (int i = 0; i < 5; i++) {
            y.undo();
        }
        typeAll(y, "bcdefgh");
        for (int left = 13; left >= 0; left--) {
            due("undo after undo and more actions", answer(y::undo), left);
        }
        due("one undo more", answer(y::undo), STATE);
        due("the oldest", linear(y), "a".repeat(8));
    }

    private static void allThatIsRemembered() {
        sentence("ACTIONS AND UNDO", "Before each action, the formula, the caret and the selection are remembered.");
        FormulaEditor x = selecting("ab(cd)e", 3, 5);
        x.type('f');
        x.moveTo(0);
        x.undo();
        due("the selection in a slot", all(x), "ab(cd)e caret 5 selected 2 from 3");
        FormulaEditor y = selecting("a".repeat(60), 0, 60);
        y.backspace();
        y.undo();
        due("60 items, all selected", all(y), "a".repeat(60) + " caret 60 selected 60 from 0");
        FormulaEditor z = new FormulaEditor();
        z.type('a');
        z.undo();
        due("an empty formula", all(z), " caret 0 selected 0 from 0");
    }

    private static void whatIsNotRemembered() {
        sentence("ACTIONS AND UNDO", "The clipboard, the text and the save slots are not remembered.");
        FormulaEditor x = copying("ab/c", 1, 6);
        x.type('d');
        x.save(0);
        x.grow();
        x.copy();
        x.append('z');
        x.undo();
        due("the formula comes back", linear(x), "ab/c");
        due("the clipboard does not", x.about(5), 1);
        due("the text does not", x.clearText(), 5);
        due("the save slot does not", x.restore(0), 2);
        due("nor its formula", linear(x), "ad");
    }

    private static void undoAndRestoreAreNone() {
        sentence("ACTIONS AND UNDO", "undo, load and restore are not actions.");
        FormulaEditor x = symbols(3);
        due("undo", answer(x::undo), 2);
        due("undo again goes on back", answer(x::undo), 1);
        due("the formula", x.about(0), 1);
        x.save(1);
        x.restore(1);
        due("undo after restore", answer(x::undo), STATE);
        x.load();
        due("undo after load", answer(x::undo), STATE);
    }

    // ---- EXCEPTIONS

    private static void exceptions() {
        noSuchResult();
        placesPositionsAndSlots();
        firstNamedFirst();
        nothingChangedByText();
        nothingChangedByQuestions();
        nothingChangedByMoving();
        nothingChangedByActions();
        nothingForgottenByRefusedActions();
        nothingChangedByTheRest();
    }

    private static void noSuchResult() {
        sentence("The constants", "`NONE = -9`: There is no such result.");
        due("NONE", FormulaEditor.NONE, -9);
        FormulaEditor x = new FormulaEditor();
        due("no error", x.errorPosition(), -9);
        due("no item behind the place", x.place(0, 5), -9);
        due("no move", x.moveVertically(false), -9);
        due("no command that fails", x.runScript(1, 1097), -9);
    }

    private static void placesPositionsAndSlots() {
        sentence("EXCEPTIONS",
            "IndexOutOfBoundsException means that a place or a position does not exist, or that a slot is not 0 or 1.");
        FormulaEditor x = loaded("ab");
        due("moveTo", answer(() -> x.moveTo(3)), INDEX);
        due("place", answer(() -> x.place(3, 0)), INDEX);
        due("linearAt", answer(() -> x.linearAt(2)), INDEX);
        due("drawn", answer(() -> x.drawn(2, 0)), INDEX);
        due("save", answer(() -> x.save(2)), INDEX);
        due("restore", answer(() -> x.restore(2)), INDEX);
    }

    private static void firstNamedFirst() {
        sentence("EXCEPTIONS",
            "If several exceptions apply to a call, the one that its description names first is thrown.");
        FormulaEditor full = withText("a".repeat(120));
        due("append", answer(() -> full.append(256)), ARGUMENT);
        due("append", answer(() -> full.append(-1)), ARGUMENT);
        due("place", answer(() -> full.place(-1, 6)), INDEX);
        due("place", answer(() -> full.place(1, -1)), INDEX);
        FormulaEditor x = symbols(60);
        due("type", answer(() -> x.type('r')), ARGUMENT);
        due("wrap", answer(() -> x.wrap(0)), ARGUMENT);
        due("wrap", answer(() -> x.wrap(6)), ARGUMENT);
        due("restore", answer(() -> x.restore(2)), INDEX);
        due("replace", answer(() -> x.replace('r', 'r')), ARGUMENT);
        due("runScript", answer(() -> x.runScript(0, -1)), ARGUMENT);
    }

    private static void nothingChangedByText() {
        sentence("EXCEPTIONS", "A call that throws an exception changes nothing.");
        refusedWithoutChange("append(-1)", ARGUMENT, Kit::furnished, x -> x.append(-1));
        refusedWithoutChange("append(256)", ARGUMENT, Kit::furnished, x -> x.append(256));
        Maker fullText = () -> furnishedWithText("()".repeat(60));
        refusedWithoutChange("append to 120", STATE, fullText, x -> x.append('a'));
        refusedWithoutChange("append(256) to 120", ARGUMENT, fullText, x -> x.append(256));
        for (String text : new String[] {")", "a/", "(", "a".repeat(61), "((((((a))))))"}) {
            refusedWithoutChange("load of " + text, STATE, () -> furnishedWithText(text), FormulaEditor::load);
        }
    }

    private static FormulaEditor furnishedWithText(String text) {
        FormulaEditor x = furnished();
        put(x, text);
        return x;
    }

    private static void nothingChangedByQuestions() {
        sentence("EXCEPTIONS", "A call that throws an exception changes nothing.");
        int places = furnished().about(1);
        int length = furnished().linearLength();
        int width = furnished().drawing(0);
        int lines = furnished().drawing(1);
        refusedWithoutChange("about(-1)", ARGUMENT, Kit::furnished, x -> x.about(-1));
        refusedWithoutChange("about(6)", ARGUMENT, Kit::furnished, x -> x.about(6));
        refusedWithoutChange("place(-1, 0)", INDEX, Kit::furnished, x -> x.place(-1, 0));
        refusedWithoutChange("place behind the last", INDEX, Kit::furnished, x -> x.place(places, 0));
        refusedWithoutChange("place(0, -1)", ARGUMENT, Kit::furnished, x -> x.place(0, -1));
        refusedWithoutChange("place(0, 6)", ARGUMENT, Kit::furnished, x -> x.place(0, 6));
        refusedWithoutChange("selection(-1)", ARGUMENT, Kit::furnished, x -> x.selection(-1));
        refusedWithoutChange("selection(3)", ARGUMENT, Kit::furnished, x -> x.selection(3));
        refusedWithoutChange("linearAt(-1)", INDEX, Kit::furnished, x -> x.linearAt(-1));
        refusedWithoutChange("linearAt(length)", INDEX, Kit::furnished, x -> x.linearAt(length));
        refusedWithoutChange("drawing(-1)", ARGUMENT, Kit::furnished, x -> x.drawing(-1));
        refusedWithoutChange("drawing(3)", ARGUMENT, Kit::furnished, x -> x.drawing(3));
        refusedWithoutChange("drawn(-1, 0)", INDEX, Kit::furnished, x -> x.drawn(-1, 0));
        refusedWithoutChange("drawn(width, 0)", INDEX, Kit::furnished, x -> x.drawn(width, 0));
        refusedWithoutChange("drawn(0, -1)", INDEX, Kit::furnished, x -> x.drawn(0, -1));
        refusedWithoutChange("drawn(0, lines)", INDEX, Kit::furnished, x -> x.drawn(0, lines));
    }

    private static void nothingChangedByMoving() {
        sentence("EXCEPTIONS", "A call that throws an exception changes nothing.");
        int places = furnished().about(1);
        refusedWithoutChange("moveTo(-1)", INDEX, Kit::furnished, x -> x.moveTo(-1));
        refusedWithoutChange("moveTo behind the last", INDEX, Kit::furnished, x -> x.moveTo(places));
        refusedWithoutChange("moveBy(-201)", ARGUMENT, Kit::furnished, x -> x.moveBy(-201));
        refusedWithoutChange("moveBy(201)", ARGUMENT, Kit::furnished, x -> x.moveBy(201));
        // in the furnished editor the one item of a slot is selected
        refusedWithoutChange("extend(true)", STATE, Kit::furnished, x -> x.extend(true));
        refusedWithoutChange("extend(false)", STATE, Kit::furnished, x -> x.extend(false));
        Maker allSelected = () -> {
            FormulaEditor x = furnished();
            x.grow();
            x.grow();
            return x;
        };
        refusedWithoutChange("grow", STATE, allSelected, FormulaEditor::grow);
        refusedWithoutChange("grow of nothing", STATE, FormulaEditor::new, FormulaEditor::grow);
        Maker noneSelected = () -> {
            FormulaEditor x = furnished();
            x.moveBy(0);
            return x;
        };
        refusedWithoutChange("copy", STATE, noneSelected, FormulaEditor::copy);
    }

    /** Furnished, but with 60 items, one of them selected, and two in the clipboard. */
    private static FormulaEditor furnishedFully() {
        FormulaEditor x = furnished();
        x.moveTo(0);
        x.extend(true);
        x.extend(true);
        x.copy();
        x.moveTo(0);
        while (x.about(0) < 60) {
            x.type('s');
        }
        x.extend(false);
        return x;
    }

    private static void nothingChangedByActions() {
        sentence("EXCEPTIONS", "A call that throws an exception changes nothing.");
        refusedWithoutChange("type('r')", ARGUMENT, Kit::furnished, x -> x.type('r'));
        refusedWithoutChange("wrap(0)", ARGUMENT, Kit::furnished, x -> x.wrap(0));
        refusedWithoutChange("wrap(6)", ARGUMENT, Kit::furnished, x -> x.wrap(6));
        refusedWithoutChange("replace('r', 'a')", ARGUMENT, Kit::furnished, x -> x.replace('r', 'a'));
        refusedWithoutChange("replace('a', 'r')", ARGUMENT, Kit::furnished, x -> x.replace('a', 'r'));
        refusedWithoutChange("paste too many", STATE, DescriptionBoundaries::furnishedFully, FormulaEditor::paste);
        refusedWithoutChange("wrap too many", STATE, DescriptionBoundaries::furnishedFully, x -> x.wrap(1));
        Maker full = () -> {
            FormulaEditor x = furnishedFully();
            x.moveBy(0);
            return x;
        };
        refusedWithoutChange("type too many", STATE, full, x -> x.type('a'));
        refusedWithoutChange("wrap too many", STATE, full, x -> x.wrap(5));
        Maker atStart = () -> {
            FormulaEditor x = furnished();
            x.moveTo(0);
            return x;
        };
        refusedWithoutChange("backspace", STATE, atStart, FormulaEditor::backspace);
        refusedWithoutChange("paste of nothing", STATE, () -> selecting("ab", 0, 1), FormulaEditor::paste);
        refusedWithoutChange("paste too deep", STATE, () -> {
            FormulaEditor x = copying("()(((((a)))))", 0, 2);
            x.moveTo(7);
            x.extend(true);
            return x;
        }, FormulaEditor::paste);
        refusedWithoutChange("wrap too deep", STATE, () -> selecting("(((((a)))))", 0, 11), x -> x.wrap(4));
    }

    private static void nothingForgottenByRefusedActions() {
        sentence("EXCEPTIONS", "A call that throws an exception changes nothing.");
        Maker fourteen = () -> {
            FormulaEditor x = symbols(14);
            x.moveTo(0);
            return x;
        };
        refusedWithoutChange("type with 14 remembered", ARGUMENT, fourteen, x -> x.type('r'));
        refusedWithoutChange("wrap with 14 remembered", ARGUMENT, fourteen, x -> x.wrap(6));
        refusedWithoutChange("backspace with 14 remembered", STATE, fourteen, FormulaEditor::backspace);
        refusedWithoutChange("paste with 14 remembered", STATE, fourteen, FormulaEditor::paste);
        refusedWithoutChange("replace with 14 remembered", ARGUMENT, fourteen, x -> x.replace('a', 'r'));
        refusedWithoutChange("type of a 61st", STATE, () -> symbols(60), x -> x.type('a'));
        refusedWithoutChange("wrap as a 61st", STATE, () -> symbols(60), x -> x.wrap(2));
    }

    private static void nothingChangedByTheRest() {
        sentence("EXCEPTIONS", "A call that throws an exception changes nothing.");
        refusedWithoutChange("undo", STATE, () -> copying("ab", 0, 1), FormulaEditor::undo);
        refusedWithoutChange("runScript(0, 1)", ARGUMENT, Kit::furnished, x -> x.runScript(0, 1));
        refusedWithoutChange("runScript(5, 1)", ARGUMENT, Kit::furnished, x -> x.runScript(5, 1));
        refusedWithoutChange("runScript(1, -1)", ARGUMENT, Kit::furnished, x -> x.runScript(1, -1));
        refusedWithoutChange("runScript(1, 10000)", ARGUMENT, Kit::furnished, x -> x.runScript(1, 10000));
        refusedWithoutChange("simulate(1, 0)", ARGUMENT, Kit::furnished, x -> x.simulate(1, 0));
        refusedWithoutChange("simulate(1, 61)", ARGUMENT, Kit::furnished, x -> x.simulate(1, 61));
        refusedWithoutChange("save(-1)", INDEX, Kit::furnished, x -> x.save(-1));
        refusedWithoutChange("save(2)", INDEX, Kit::furnished, x -> x.save(2));
        refusedWithoutChange("restore(-1)", INDEX, Kit::furnished, x -> x.restore(-1));
        refusedWithoutChange("restore(2)", INDEX, Kit::furnished, x -> x.restore(2));
        Maker oneSlotFilled = () -> {
            FormulaEditor x = selecting("ab", 0, 1);
            x.type('c');
            x.save(0);
            x.extend(true);
            return x;
        };
        refusedWithoutChange("restore(1)", STATE, oneSlotFilled, x -> x.restore(1));
    }

    // ---- the number of calls

    private static void fiveHundredAndTwelveCalls() {
        sentence("What it is", "An object is used for at most 512 calls after it has been made");
        FormulaEditor x = new FormulaEditor();
        for (int call = 1; call <= 510; call += 2) {
            due("call " + call, answer(() -> x.type('a')), 1);
            due("call " + (call + 1), answer(x::backspace), 1);
        }
        due("call 511", answer(x::undo), 13);
        due("call 512", x.about(0), 1);
    }
}
