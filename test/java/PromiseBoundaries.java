/**
 * The promises 1 to 28, sentence by sentence: for each one that names a boundary case a test of its
 * own. What an exception leaves unchanged is tested in DescriptionBoundaries, for all promises.
 */
public final class PromiseBoundaries extends Kit {
    private static final String SIXTY = "a".repeat(60);
    private static final String DEEPEST = "(((((a)))))";
    /** What 60 fractions with empty slots are written as: the formula with the most places. */
    private static final String MOST_PLACES = "()/()".repeat(60);

    public static void main(String[] args) {
        promise1();
        promise2();
        promise3();
        promise4();
        promise5();
        promise6();
        promise7();
        promise8();
        promises9And10();
        promise11();
        promise12();
        promise13();
        promise14();
        promise15();
        promise16();
        promise17();
        promise18();
        promise19();
        promise20();
        promise21();
        promise22();
        promise23();
        promise24();
        promise25();
        promise26();
        promise27();
        promise28();
        mostPlaces();
        finish("the boundaries of the promises hold");
    }

    private interface IntCall {
        int on(int argument);
    }

    /** All these arguments, and those that are far away, are refused. */
    private static void refusedFor(String call, String want, IntCall made, int... arguments) {
        for (int argument : arguments) {
            due(call + " with " + argument, answer(() -> made.on(argument)), want);
        }
        for (int argument : FAR) {
            due(call + " with " + argument, answer(() -> made.on(argument)), want);
        }
    }

    // ---- promise 1

    private static void promise1() {
        emptyAtFirst();
        twoEditorsApart();
    }

    private static void emptyAtFirst() {
        sentence("Promise 1", "Creates an editor with an empty formula.");
        int[] about = {0, 1, 0, 0, 0, 0};
        int[] place = {0, 0, 0, 0, 0, NONE};
        FormulaEditor x = new FormulaEditor();
        for (int what = 0; what < 6; what++) {
            due("about(" + what + ")", x.about(what), about[what]);
            due("place(0, " + what + ")", x.place(0, what), place[what]);
        }
        due("all", all(x), " caret 0 selected 0 from 0");
        due("drawing", drawn(x), "?|");
        due("errorPosition", x.errorPosition(), NONE);
        due("undo", answer(x::undo), STATE);
        due("copy", answer(x::copy), STATE);
        due("paste", answer(x::paste), STATE);
        due("restore(0)", answer(() -> x.restore(0)), STATE);
        due("restore(1)", answer(() -> x.restore(1)), STATE);
        due("moveBy", x.moveBy(200), 0);
        due("moveVertically", x.moveVertically(true), NONE);
        due("clearText", x.clearText(), 0);
        due("load", x.load(), 0);
    }

    private static void twoEditorsApart() {
        sentence("Promise 1", "Creates an editor with an empty formula.");
        FormulaEditor other = furnished();
        String before = all(other);
        FormulaEditor x = new FormulaEditor();
        due("all of another one", all(x), " caret 0 selected 0 from 0");
        due("clipboard of another one", x.about(5), 0);
        due("undo of another one", answer(x::undo), STATE);
        due("save slot of another one", answer(() -> x.restore(0)), STATE);
        x.type('q');
        due("the other one", all(other), before);
    }

    // ---- promise 2

    private static void promise2() {
        characterCodes();
        newLength();
        fullText();
    }

    private static void characterCodes() {
        sentence("Promise 2", "Throws `IllegalArgumentException` if c is out of range");
        FormulaEditor x = new FormulaEditor();
        due("append(0)", answer(() -> x.append(0)), 1);
        due("append(255)", answer(() -> x.append(255)), 2);
        refusedFor("append", ARGUMENT, x::append, -1, 256);
        due("the text then", x.clearText(), 2);
    }

    private static void newLength() {
        sentence("Promise 2", "Returns the new length of the text.");
        FormulaEditor x = new FormulaEditor();
        for (int length = 1; length <= 120; length++) {
            due("append", answer(() -> x.append('a')), length);
        }
    }

    private static void fullText() {
        sentence("Promise 2", "Throws `IllegalStateException` if the text already has 120 characters");
        FormulaEditor x = withText("()".repeat(59) + "a");
        due("with 119", answer(() -> x.append('b')), 120);
        due("with 120", answer(() -> x.append('c')), STATE);
        due("again", answer(() -> x.append('c')), STATE);
        x.clearText();
        due("with none again", answer(() -> x.append('d')), 1);
        x.load();
        due("the formula of it", linear(x), "d");
    }

    // ---- promise 3

    private static void promise3() {
        sentence("Promise 3", "Returns the previous length of the text.");
        due("of none", new FormulaEditor().clearText(), 0);
        due("of one", withText("a").clearText(), 1);
        due("of 120", withText("a".repeat(120)).clearText(), 120);
        sentence("Promise 3", "Empties the text buffer.");
        FormulaEditor x = loaded("a)".substring(0, 1));
        put(x, "b)");
        x.clearText();
        due("a second time", x.clearText(), 0);
        due("errorPosition", x.errorPosition(), NONE);
        due("the formula stays", linear(x), "a");
        due("load", x.load(), 0);
    }

    // ---- promise 4

    private static void promise4() {
        errorPositions();
        readAfterOthers();
    }

    private static void errorPositions() {
        sentence("Promise 4", "Returns the error position of the text; NONE if it is a linear text.");
        due("no text", withText("").errorPosition(), NONE);
        due("one character", withText("a").errorPosition(), NONE);
        due("one wrong character", withText("/").errorPosition(), 0);
        due("one that is not enough", withText("r").errorPosition(), 1);
        due("120 characters", withText("(a/b)+".repeat(20)).errorPosition(), NONE);
        due("the last of 120", withText("(a/b)+".repeat(19) + "(a/b))").errorPosition(), 119);
        due("one missing behind 120", withText("(a/b)+".repeat(19) + "+(a/b/").errorPosition(), 120);
        sentence("Promise 4", "Checks the text.");
        FormulaEditor x = loaded("ab");
        put(x, "c)");
        due("a first time", x.errorPosition(), 1);
        due("a second time", x.errorPosition(), 1);
        due("the formula stays", all(x), "ab caret 0 selected 0 from 0");
        x.append('d');
        due("behind one character more", x.errorPosition(), 1);
        due("the text stays", x.clearText(), 3);
    }

    private static void readAfterOthers() {
        sentence("Promise 4", "Checks the text.");
        String[] texts = {"", "a", "(", "((", "r", "^", "a_", "a/", "a/b", "(a", "r(a/", "^(", "a^(b", "a/(b", "a/b/(c", "(a)/(",
            "(a)", "(a)/b", "a/(b)", ")", "a/b)", "_(a/b", "^((a)", "^b", "a^b", "(a)^b/c", "r(a)/b ^c", "(".repeat(120)};
        for (String first : texts) {
            for (String second : texts) {
                FormulaEditor x = withText(first);
                x.errorPosition();
                put(x, second);
                FormulaEditor fresh = withText(second);
                String what = " of " + second + " after " + first;
                due("errorPosition" + what, x.errorPosition(), fresh.errorPosition());
                due("load" + what, answer(x::load), answer(fresh::load));
                due("formula" + what, linear(x), linear(fresh));
            }
        }
    }

    // ---- promise 5

    private static void promise5() {
        replacesTheFormula();
        forgetsAllThatIsRemembered();
        keepsTextAndClipboard();
        numberOfItems();
        refusedTexts();
    }

    private static void replacesTheFormula() {
        sentence("Promise 5",
            "Replaces the formula by that of the text; the caret is at place 0, without a selection.");
        FormulaEditor x = selecting(SIXTY, 0, 60);
        put(x, "a/b");
        x.load();
        due("in place of 60", all(x), "a/b caret 0 selected 0 from 0");
        x.moveTo(5);
        x.grow();
        put(x, "");
        x.load();
        due("by nothing", all(x), " caret 0 selected 0 from 0");
        put(x, SIXTY);
        x.load();
        due("by 60", all(x), SIXTY + " caret 0 selected 0 from 0");
        x.load();
        due("a second time", x.about(0), 60);
    }

    private static void forgetsAllThatIsRemembered() {
        sentence("Promise 5", "Forgets all that is remembered and empties both save slots.");
        for (int actions = 0; actions <= 16; actions++) {
            FormulaEditor x = symbols(actions);
            x.save(0);
            x.save(1);
            x.load();
            due("undo of " + actions, answer(x::undo), STATE);
            due("restore(0)", answer(() -> x.restore(0)), STATE);
            due("restore(1)", answer(() -> x.restore(1)), STATE);
            x.type('b');
            due("undo of one action then", answer(x::undo), 0);
            due("and no more", answer(x::undo), STATE);
        }
    }

    private static void keepsTextAndClipboard() {
        sentence("Promise 5", "Keeps the text and the clipboard.");
        FormulaEditor x = copying(SIXTY, 0, 60);
        x.load();
        due("clipboard", x.about(5), 60);
        due("text", x.clearText(), 60);
        x.load();
        due("paste", answer(x::paste), 60);
        due("what was pasted", linear(x), SIXTY);
    }

    private static void numberOfItems() {
        sentence("Promise 5", "Returns the number of items.");
        due("none", answer(() -> withText("").load()), 0);
        due("none but blanks", answer(() -> withText(" ".repeat(120)).load()), 0);
        due("one", answer(() -> withText("()").load()), 1);
        due("in all rows", answer(() -> withText("(a/b)^r(c)").load()), 7);
        due("60", answer(() -> withText(SIXTY).load()), 60);
        // 85 characters with 25 fractions of empty slots, and 33 with 15 fractions and 18 letters
        String crowded = "()/()/()/()/()/()".repeat(5) + "a/b/c/d/e/f".repeat(3);
        FormulaEditor x = withText(crowded);
        due("58 in a crowded text", answer(x::load), 25 + 33);
        due("its formula", linear(x), "((((()/())/())/())/())/()".repeat(5) + "((((a/b)/c)/d)/e)/f".repeat(3));
    }

    private static void refusedTexts() {
        sentence("Promise 5", "Throws `IllegalStateException` if the text is not a linear text, or the formula is too large");
        String[] refused = {")", "a)", "(", "r", "a/", "^", "a".repeat(119) + ")", "a".repeat(61), "a".repeat(120),
            "((((((a))))))", "()".repeat(59) + "ab"};
        for (String text : refused) {
            due("load of " + text, answer(() -> withText(text).load()), STATE);
        }
        due("load of 60 items on level 5", answer(() -> withText("a".repeat(54) + DEEPEST).load()), 60);
    }

    // ---- promise 6

    private static void promise6() {
        aboutItemsAndPlaces();
        aboutTheRest();
        sentence("Promise 6", "Throws `IllegalArgumentException` if what is not 0 to 5");
        FormulaEditor x = loaded("a");
        due("about(0)", answer(() -> x.about(0)), 1);
        due("about(5)", answer(() -> x.about(5)), 0);
        refusedFor("about", ARGUMENT, x::about, -1, 6);
    }

    private static void aboutItemsAndPlaces() {
        sentence("Promise 6", "0: the number of items; 1: the number of places; 2: the place of the caret");
        due("no items", loaded("").about(0), 0);
        due("60 items", fractions(60).about(0), 60);
        due("items in all rows", loaded(DEEPEST).about(0), 6);
        due("one place", loaded("").about(1), 1);
        due("two places", loaded("a").about(1), 2);
        due("most places", fractions(60).about(1), 181);
        due("caret at the first place", at("ab", 0).about(2), 0);
        due("caret at the last place", at("ab", 2).about(2), 2);
        due("caret at the last of most places", fractions(60).about(2), 180);
    }

    private static void aboutTheRest() {
        sentence("Promise 6",
            "3: the greatest level of a row; 4: the number of empty slots; 5: the number of items in the clipboard (in all rows)");
        due("level 0", loaded("ab").about(3), 0);
        due("level of an empty slot", loaded("()").about(3), 1);
        due("level 5", loaded(DEEPEST).about(3), 5);
        due("the greatest of some", loaded("(a)((b))(c)").about(3), 2);
        due("the main row is no slot", loaded("").about(4), 0);
        due("no empty slot", loaded("a/b").about(4), 0);
        due("slot 0 alone", loaded("()/b").about(4), 1);
        due("slot 1 alone", loaded("a/()").about(4), 1);
        due("most empty slots", fractions(60).about(4), 120);
        due("a slot with an empty structure", loaded("(^())").about(4), 1);
        due("no clipboard", loaded("a").about(5), 0);
        due("one in the clipboard", copying("ab", 0, 1).about(5), 1);
        due("in all rows of the clipboard", copying(DEEPEST, 0, 11).about(5), 6);
        due("60 in the clipboard", copying(SIXTY, 0, 60).about(5), 60);
    }

    // ---- promise 7

    private static void promise7() {
        itemsAroundAPlace();
        structureAroundAPlace();
        itemBehindAPlace();
        sentence("Promise 7", "Throws `IndexOutOfBoundsException` if there is no such place");
        for (String text : new String[] {"", "a", "a/b", SIXTY}) {
            FormulaEditor x = loaded(text);
            int places = x.about(1);
            due("the first place", answer(() -> x.place(0, 1)), 0);
            due("the last place", answer(() -> x.place(places - 1, 1)), x.place(0, 2));
            refusedFor("place(.., 0)", INDEX, place -> x.place(place, 0), -1, places);
            refusedFor("place(.., 6)", INDEX, place -> x.place(place, 6), -1, places);
        }
        sentence("Promise 7", "Throws `IllegalArgumentException` if what is not 0 to 5");
        FormulaEditor x = loaded("a");
        due("place(0, 0)", answer(() -> x.place(0, 0)), 0);
        due("place(0, 5)", answer(() -> x.place(0, 5)), (int) 'a');
        refusedFor("place(1, ..)", ARGUMENT, what -> x.place(1, what), -1, 6);
    }

    private static void itemsAroundAPlace() {
        sentence("Promise 7",
            "0: the level of its row; 1: how many items of its row are before it; 2: how many items its row has");
        due("level 0", loaded(DEEPEST).place(0, 0), 0);
        due("level 5", loaded(DEEPEST).place(5, 0), 5);
        due("level 5 behind the symbol", loaded(DEEPEST).place(6, 0), 5);
        due("level 4 behind the structure", loaded(DEEPEST).place(7, 0), 4);
        FormulaEditor x = loaded(SIXTY);
        due("none before", x.place(0, 1), 0);
        due("60 before", x.place(60, 1), 60);
        due("60 in the row", x.place(30, 2), 60);
        FormulaEditor y = fractions(60);
        due("60 structures before", y.place(180, 1), 60);
        due("none in an empty slot", y.place(1, 2), 0);
        due("none before in an empty slot", y.place(179, 1), 0);
        // 0 [ 1 a 2 b 3 | 4 c 5 ] 6 d 7
        FormulaEditor z = loaded("(ab)/cd");
        due("only those of its slot", z.place(4, 1), 0);
        due("only those of slot 0", z.place(3, 2), 2);
        due("only those of slot 1", z.place(5, 2), 1);
        due("a structure is one item", z.place(6, 1), 1);
        due("of the main row", z.place(6, 2), 2);
    }

    private static void structureAroundAPlace() {
        sentence("Promise 7", "3: the kind of the structure whose slot its row is (0 for the main row); 4: which slot of this "
            + "structure it is (0 for the main row)");
        FormulaEditor x = loaded("a/()");
        int[][] around = {{0, 0}, {1, 0}, {1, 0}, {1, 1}, {0, 0}};
        for (int place = 0; place < around.length; place++) {
            due("kind at " + place, x.place(place, 3), around[place][0]);
            due("slot at " + place, x.place(place, 4), around[place][1]);
        }
        String[] texts = {"a/b", "^a", "_a", "r(a)", "(a)"};
        for (int kind = 1; kind <= 5; kind++) {
            FormulaEditor y = loaded(texts[kind - 1]);
            int last = y.about(1) - 1;
            due("kind before " + kind, y.place(0, 3), 0);
            due("kind in it", y.place(1, 3), kind);
            due("kind at its end", y.place(last - 1, 3), kind);
            due("slot at its end", y.place(last - 1, 4), kind == 1 ? 1 : 0);
            due("kind behind it", y.place(last, 3), 0);
        }
        // 0 [ 1 a 2 | 3 ( 4 b 5 ) 6 ] 7: the slot is that of the innermost structure
        FormulaEditor z = loaded("a/((b))");
        due("slot in the parentheses", z.place(4, 4), 0);
        due("slot behind them", z.place(6, 4), 1);
    }

    private static void itemBehindAPlace() {
        sentence("Promise 7", "5: the item behind the place: the character code of a symbol, or the kind of a structure (NONE if "
            + "there is none)");
        FormulaEditor x = new FormulaEditor();
        typeAll(x, SYMBOLS);
        for (int i = 0; i < SYMBOLS.length(); i++) {
            due("symbol", x.place(i, 5), (int) SYMBOLS.charAt(i));
        }
        due("at the end of the main row", x.place(SYMBOLS.length(), 5), NONE);
        String[] texts = {"()/()", "^()", "_()", "r()", "()"};
        for (int kind = 1; kind <= 5; kind++) {
            FormulaEditor y = loaded(texts[kind - 1]);
            due("structure", y.place(0, 5), kind);
            for (int place = 1; place < y.about(1); place++) {
                due("in an empty slot or behind it", y.place(place, 5), NONE);
            }
        }
        due("in an empty formula", loaded("").place(0, 5), NONE);
        FormulaEditor shorter = symbols(3);
        shorter.backspace();
        due("where an item was", shorter.place(2, 5), NONE);
        due("at the end of a numerator", loaded("a/b").place(2, 5), NONE);
        due("at the end of a denominator", loaded("a/bc").place(4, 5), NONE);
    }

    // ---- promise 8

    private static void promise8() {
        sentence("Promise 8", "0: the number of selected items of the row (0 if there is no selection)");
        due("none", at("ab", 1).selection(0), 0);
        due("one", selecting("ab", 0, 1).selection(0), 1);
        due("a structure is one", selecting(DEEPEST, 0, 11).selection(0), 1);
        due("all of 60", selecting(SIXTY, 0, 60).selection(0), 60);
        sentence("Promise 8", "1: the number of all items in them, themselves included");
        due("none", at("ab", 1).selection(1), 0);
        due("one", selecting("ab", 0, 1).selection(1), 1);
        due("in all rows", selecting(DEEPEST, 0, 11).selection(1), 6);
        due("60", selecting("(" + "a".repeat(59) + ")", 0, 61).selection(1), 60);
        sentence("Promise 8",
            "2: the place before the first one (the place of the caret if there is no selection)");
        due("the caret's", at("ab", 1).selection(2), 1);
        due("the caret's at the end", at("ab", 2).selection(2), 2);
        due("the first", selecting("ab", 0, 2).selection(2), 0);
        due("in a slot", selecting(DEEPEST, 5, 6).selection(2), 5);
        due("before a structure", selecting("a" + DEEPEST, 1, 12).selection(2), 1);
        sentence("Promise 8", "Throws `IllegalArgumentException` if what is not 0 to 2");
        FormulaEditor x = loaded("a");
        refusedFor("selection", ARGUMENT, x::selection, -1, 3);
    }

    // ---- promises 9 and 10

    private static void promises9And10() {
        sentence("Promise 9", "Returns the length of the linear text of the main row.");
        due("of none", loaded("").linearLength(), 0);
        due("of one", loaded("a").linearLength(), 1);
        due("blanks are not written", loaded(" a b ").linearLength(), 2);
        due("of the longest", fractions(60).linearLength(), 300);
        sentence("Promise 10", "Throws `IndexOutOfBoundsException` if there is no such position");
        FormulaEditor x = loaded("a/b");
        due("the first", answer(() -> x.linearAt(0)), (int) 'a');
        due("the last", answer(() -> x.linearAt(2)), (int) 'b');
        refusedFor("linearAt", INDEX, x::linearAt, -1, 3);
        FormulaEditor longest = fractions(60);
        due("the last of the longest", answer(() -> longest.linearAt(299)), (int) ')');
        refusedFor("linearAt in the longest", INDEX, longest::linearAt, -1, 300);
        FormulaEditor empty = new FormulaEditor();
        refusedFor("linearAt in none", INDEX, empty::linearAt, -1, 0, 1);
        sentence("Promise 10", "Returns a character of the linear text of the main row.");
        FormulaEditor y = at("a/(b^(c+d))r()", 5);
        due("wherever the caret is", linear(y), "a/b^(c+d)r()");
    }

    // ---- promise 11

    private static void promise11() {
        sentence("Promise 11", "Throws `IndexOutOfBoundsException` if there is no such place");
        for (String text : new String[] {"", "a", "a/b", DEEPEST, SIXTY}) {
            FormulaEditor x = loaded(text);
            int last = x.about(1) - 1;
            due("to the last place of " + text, answer(() -> x.moveTo(last)), 0);
            due("to the first place of " + text, answer(() -> x.moveTo(0)), last);
            refusedFor("moveTo in " + text, INDEX, x::moveTo, -1, last + 1);
        }
        sentence("Promise 11", "Returns the place before.");
        FormulaEditor x = loaded("a/b");
        int before = 0;
        for (int place : new int[] {5, 0, 3, 3, 1, 4, 2}) {
            due("moveTo(" + place + ")", answer(() -> x.moveTo(place)), before);
            due("the caret then", x.about(2), place);
            before = place;
        }
        sentence("Promise 11", "Moves the caret to a place. The selection ends.");
        FormulaEditor y = selecting("ab", 0, 2);
        y.moveTo(2);
        due("to the same place", all(y), "ab caret 2 selected 0 from 2");
    }

    // ---- promise 12

    private static void promise12() {
        sentence("Promise 12", "It stops at the first or last place.");
        FormulaEditor x = at("a/b", 1);
        due("to the first", answer(() -> x.moveBy(-1)), 0);
        due("no further to the left", answer(() -> x.moveBy(-1)), 0);
        due("to the last", answer(() -> x.moveBy(5)), 5);
        due("no further to the right", answer(() -> x.moveBy(1)), 5);
        due("too far to the left", answer(() -> x.moveBy(-6)), 0);
        due("too far to the right", answer(() -> x.moveBy(6)), 5);
        due("in an empty formula", answer(() -> new FormulaEditor().moveBy(1)), 0);
        FormulaEditor long60 = fractions(60);
        due("over 180 places", answer(() -> long60.moveBy(-180)), 0);
        due("over 179 places", answer(() -> long60.moveBy(179)), 179);
        sentence("Promise 12", "Throws `IllegalArgumentException` if places is out of range");
        due("-200", answer(() -> long60.moveBy(-200)), 0);
        due("200", answer(() -> long60.moveBy(200)), 180);
        refusedFor("moveBy", ARGUMENT, long60::moveBy, -201, 201);
        due("the caret then", long60.about(2), 180);
        sentence("Promise 12", "Moves the caret by some places, to the right if the number is positive.");
        FormulaEditor y = at("a/b", 2);
        due("1", answer(() -> y.moveBy(1)), 3);
        due("0", answer(() -> y.moveBy(0)), 3);
        due("-1", answer(() -> y.moveBy(-1)), 2);
        sentence("Promise 12", "The selection ends.");
        FormulaEditor z = selecting("abc", 0, 2);
        due("from the caret, not from where the selection begins", answer(() -> z.moveBy(-1)), 1);
        due("the selection ends", z.selection(0), 0);
    }

    // ---- promise 13

    private static void promise13() {
        innermostDenominator();
        asManyItemsBefore();
        itemInWhichTheCaretLies();
        behindTheLastOne();
        intoAScript();
        outOfAScript();
        orderOfTheRules();
        nothingHappens();
    }

    private static void vertically(String text, int from, boolean up, int to) {
        FormulaEditor x = at(text, from);
        due(text + " from " + from + (up ? " up" : " down"), x.moveVertically(up), to);
        due("the caret then", x.about(2), to == NONE ? from : to);
    }

    private static void innermostDenominator() {
        sentence("Promise 13", "if the row of the caret lies in the denominator of a fraction (it is this slot, or lies in a "
            + "structure in it, and so on), the innermost such fraction counts");
        // 0 [ 1 a 2 | 3 ( 4 ( 5 ( 6 ( 7 ) 8 ) 9 ) 10 ) 11 ] 12
        for (int place = 3; place <= 7; place++) {
            vertically("a/((((()))))", place, true, 1);
        }
        vertically("a/((((()))))", 11, true, 2);
        vertically("a/((((()))))", 12, true, NONE);
        vertically("a/((((()))))", 2, true, NONE);
        vertically("a/((((()))))", 0, true, NONE);
        // 0 [ 1 a 2 | 3 [ 4 b 5 | 6 c 7 ] 8 ] 9
        vertically("a/(b/c)", 6, true, 4);
        vertically("a/(b/c)", 7, true, 5);
        vertically("a/(b/c)", 4, true, 1);
        vertically("a/(b/c)", 5, true, 1);
        vertically("a/(b/c)", 8, true, 2);
        sentence("Promise 13", "Down: likewise, with numerator and denominator exchanged");
        // 0 [ 1 ( 2 ( 3 ( 4 ( 5 ) 6 ) 7 ) 8 ) 9 | 10 a 11 ] 12
        for (int place = 1; place <= 5; place++) {
            vertically("((((()))))/a", place, false, 10);
        }
        vertically("((((()))))/a", 9, false, 11);
        vertically("((((()))))/a", 10, false, NONE);
        vertically("((((()))))/a", 12, false, NONE);
        // 0 [ 1 [ 2 a 3 | 4 b 5 ] 6 | 7 c 8 ] 9
        vertically("a/b/c", 2, false, 4);
        vertically("a/b/c", 3, false, 5);
        vertically("a/b/c", 4, false, 7);
        vertically("a/b/c", 5, false, 7);
        vertically("a/b/c", 6, false, 8);
    }

    private static void asManyItemsBefore() {
        sentence("Promise 13",
            "the caret goes to its numerator, behind as many items as there are before the caret in the denominator");
        // 0 [ 1 ( 2 a 3 ) 4 b 5 | 6 c 7 ^ 8 d 9 10 ] 11: a structure is one item
        vertically("((a)b)/c^d", 6, true, 1);
        vertically("((a)b)/c^d", 7, true, 4);
        vertically("((a)b)/c^d", 10, true, 5);
        sentence("Promise 13", "Down: likewise, with numerator and denominator exchanged");
        vertically("((a)b)/c^d", 1, false, 6);
        vertically("((a)b)/c^d", 4, false, 7);
        vertically("((a)b)/c^d", 5, false, 10);
    }

    private static void itemInWhichTheCaretLies() {
        sentence("Promise 13", "(an item in which the caret lies does not count, only those before it)");
        // 0 [ 1 a 2 b 3 | 4 ( 5 c 6 d 7 ) 8 ] 9
        vertically("(ab)/((cd))", 5, true, 1);
        vertically("(ab)/((cd))", 7, true, 1);
        vertically("(ab)/((cd))", 8, true, 2);
        // 0 [ 1 a 2 b 3 | 4 c 5 ( 6 d 7 ) 8 ] 9
        vertically("(ab)/(c(d))", 7, true, 2);
        // 0 [ 1 c 2 ( 3 d 4 ) 5 | 6 a 7 b 8 ] 9
        vertically("(c(d))/(ab)", 4, false, 7);
        vertically("(c(d))/(ab)", 5, false, 8);
    }

    private static void behindTheLastOne() {
        sentence("Promise 13", "or behind the last one if there are not so many.");
        // 0 [ 1 a 2 | 3 b 4 c 5 d 6 ] 7
        vertically("a/(bcd)", 4, true, 2);
        vertically("a/(bcd)", 5, true, 2);
        vertically("a/(bcd)", 6, true, 2);
        // 0 [ 1 | 2 a 3 ] 4
        vertically("()/a", 3, true, 1);
        vertically("()/()", 2, true, 1);
        // 0 [ 1 b 2 c 3 d 4 | 5 a 6 ] 7
        vertically("(bcd)/a", 2, false, 6);
        vertically("(bcd)/a", 4, false, 6);
        vertically("a/()", 2, false, 3);
        vertically("()/()", 1, false, 2);
    }

    private static void intoAScript() {
        sentence("Promise 13",
            "Otherwise, if the item behind the caret is a superscript, it goes to the first place of its slot.");
        vertically("^a", 0, true, 1);
        vertically("^()", 0, true, 1);
        vertically("^(abc)", 0, true, 1);
        vertically("a^b", 1, true, 2);
        vertically("a^b", 0, true, NONE);
        vertically("a^b", 4, true, NONE);
        vertically("_a", 0, true, NONE);
        vertically("r(a)", 0, true, NONE);
        vertically("(^a)", 1, true, 2);
        // in the numerator the fraction does not count for up
        vertically("(^a)/b", 1, true, 2);
        sentence("Promise 13", "and superscript and subscript exchanged.");
        vertically("_a", 0, false, 1);
        vertically("_()", 0, false, 1);
        vertically("a_b", 1, false, 2);
        vertically("a_b", 0, false, NONE);
        vertically("a_b", 4, false, NONE);
        vertically("^a", 0, false, NONE);
        vertically("(a)", 0, false, NONE);
        vertically("b/(_a)", 3, false, 4);
    }

    private static void outOfAScript() {
        sentence("Promise 13",
            "Otherwise, if the row of the caret is the slot of a subscript, it goes to the place behind this subscript.");
        // 0 _ 1 a 2 b 3 4 c 5
        vertically("_(ab)c", 1, true, 4);
        vertically("_(ab)c", 2, true, 4);
        vertically("_(ab)c", 3, true, 4);
        vertically("_()", 1, true, 2);
        vertically("^(ab)c", 1, true, NONE);
        vertically("_((a))", 2, true, NONE);
        // 0 ( 1 _ 2 a 3 4 ) 5
        vertically("(_a)", 2, true, 4);
        sentence("Promise 13", "and superscript and subscript exchanged.");
        vertically("^(ab)c", 1, false, 4);
        vertically("^(ab)c", 3, false, 4);
        vertically("^()", 1, false, 2);
        vertically("_(ab)c", 3, false, NONE);
        vertically("^((a))", 2, false, NONE);
    }

    private static void orderOfTheRules() {
        sentence("Promise 13", "Otherwise, if the item behind the caret is a superscript");
        // 0 [ 1 a 2 | 3 b 4 ^ 5 c 6 7 _ 8 d 9 10 ] 11: the denominator comes before the scripts
        vertically("a/(b^c_d)", 4, true, 2);
        vertically("a/(b^c_d)", 8, true, 2);
        // 0 [ 1 b 2 ^ 3 c 4 5 _ 6 d 7 8 | 9 a 10 ] 11
        vertically("(b^c_d)/a", 2, false, 10);
        vertically("(b^c_d)/a", 6, false, 10);
        // 0 _ 1 a 2 ^ 3 b 4 5 6: into the script comes before out of the slot
        vertically("_(a^b)", 2, true, 3);
        vertically("_(a^b)", 1, true, 6);
        vertically("^(a_b)", 2, false, 3);
        vertically("^(a_b)", 1, false, 6);
    }

    private static void nothingHappens() {
        sentence("Promise 13", "Otherwise nothing happens.");
        for (boolean up : new boolean[] {true, false}) {
            vertically("", 0, up, NONE);
            vertically("ab", 1, up, NONE);
            vertically("a/b", 0, up, NONE);
            vertically("a/b", 5, up, NONE);
            vertically("r((a))", 2, up, NONE);
        }
        sentence("Promise 13", "The selection ends if the caret moves.");
        FormulaEditor x = selecting("a^b_c", 0, 1);
        x.moveVertically(false);
        due("it does not move", all(x), "a^b_c caret 1 selected 1 from 0");
        x.moveVertically(true);
        due("it moves", all(x), "a^b_c caret 2 selected 0 from 2");
        FormulaEditor y = selecting("a/b", 3, 4);
        y.moveVertically(true);
        due("to the numerator", all(y), "a/b caret 2 selected 0 from 2");
    }

    // ---- promise 14

    private static void extended(FormulaEditor x, boolean right, Object want, String then) {
        due(all(x) + (right ? " to the right" : " to the left"), answer(() -> x.extend(right)), want);
        due("all then", all(x), then);
    }

    private static void promise14() {
        extendLeft();
        extendRight();
        noItemToExtendBy();
        sentence("Promise 14", "Returns the number of selected items of the row then.");
        due("a structure is one item", answer(() -> at(DEEPEST, 0).extend(true)), 1);
        due("none of the inner ones count", answer(() -> selecting("(ab)/cd", 0, 6).extend(true)), 2);
    }

    private static void extendLeft() {
        sentence("Promise 14",
            "to the left, by the item before the first selected one (before the caret, if there is no selection)");
        FormulaEditor x = at("ab/cd", 7);
        extended(x, false, 1, "ab/cd caret 7 selected 1 from 6");
        extended(x, false, 2, "ab/cd caret 7 selected 2 from 1");
        extended(x, false, 3, "ab/cd caret 7 selected 3 from 0");
        extended(x, false, STATE, "ab/cd caret 7 selected 3 from 0");
        extended(at("(ab)", 2), false, 1, "(ab) caret 2 selected 1 from 1");
        FormulaEditor y = at(SIXTY, 60);
        for (int selected = 1; selected <= 60; selected++) {
            due("one more of 60", answer(() -> y.extend(false)), selected);
        }
        due("no more than 60", answer(() -> y.extend(false)), STATE);
    }

    private static void extendRight() {
        sentence("Promise 14", "to the right, by the item behind the caret, which goes behind this item.");
        FormulaEditor x = at("ab/cd", 0);
        extended(x, true, 1, "ab/cd caret 1 selected 1 from 0");
        extended(x, true, 2, "ab/cd caret 6 selected 2 from 0");
        extended(x, true, 3, "ab/cd caret 7 selected 3 from 0");
        extended(x, true, STATE, "ab/cd caret 7 selected 3 from 0");
        extended(at("(ab)", 2), true, 1, "(ab) caret 3 selected 1 from 2");
        extended(at(DEEPEST, 0), true, 1, DEEPEST + " caret 11 selected 1 from 0");
        FormulaEditor y = at(SIXTY, 0);
        for (int selected = 1; selected <= 60; selected++) {
            due("one more of 60", answer(() -> y.extend(true)), selected);
        }
        due("no more than 60", answer(() -> y.extend(true)), STATE);
    }

    private static void noItemToExtendBy() {
        sentence("Promise 14", "Throws `IllegalStateException` if there is no such item");
        due("left in an empty formula", answer(() -> new FormulaEditor().extend(false)), STATE);
        due("right in an empty formula", answer(() -> new FormulaEditor().extend(true)), STATE);
        due("left at the first place", answer(() -> at("ab", 0).extend(false)), STATE);
        due("right at the last place", answer(() -> at("ab", 2).extend(true)), STATE);
        // 0 a 1 [ 2 b 3 | 4 c 5 ] 6 d 7
        for (int place : new int[] {2, 4}) {
            due("left at the first place of a slot", answer(() -> at("ab/cd", place).extend(false)), STATE);
            due("right at the last place of a slot", answer(() -> at("ab/cd", place + 1).extend(true)), STATE);
        }
        // 0 a 1 [ 2 | 3 ] 4 ^ 5 6 _ 7 8 r 9 10 ( 11 ) 12 b 13
        for (int place : new int[] {2, 3, 5, 7, 9, 11}) {
            due("left in an empty slot", answer(() -> at("a()/() ^()_()r()()b", place).extend(false)), STATE);
            due("right in an empty slot", answer(() -> at("a()/() ^()_()r()()b", place).extend(true)), STATE);
        }
    }

    // ---- promise 15

    private static void grown(String text, int place, Object want, String then) {
        FormulaEditor x = at(text, place);
        due("grow in " + all(x), answer(x::grow), want);
        due("all then", all(x), text + " " + then);
    }

    private static void grownFrom(String text, int from, int to, Object want, String then) {
        FormulaEditor x = selecting(text, from, to);
        due("grow in " + all(x), answer(x::grow), want);
        due("all then", all(x), text + " " + then);
    }

    private static void promise15() {
        growWithoutASelection();
        growToTheRow();
        growToTheStructure();
        growNoMore();
        sentence("Promise 15", "Returns the number of selected items of the row then.");
        due("a structure is one item", answer(() -> at(DEEPEST, 11).grow()), 1);
        due("none of the inner ones count", answer(() -> at("(ab)/cd", 0).grow()), 2);
        due("60", answer(() -> fractions(60).moveTo(0) + at(SIXTY, 0).grow()), 180 + 60);
    }

    private static void growWithoutASelection() {
        sentence("Promise 15", "Without a selection: the item before the caret is selected");
        grown("ab", 2, 1, "caret 2 selected 1 from 1");
        grown("ab", 1, 1, "caret 1 selected 1 from 0");
        grown(DEEPEST, 11, 1, "caret 11 selected 1 from 0");
        grown("(ab)", 2, 1, "caret 2 selected 1 from 1");
        grown("a/b", 4, 1, "caret 4 selected 1 from 3");
        sentence("Promise 15", "if there is none, all items of the row (the caret goes behind the last one).");
        grown("a", 0, 1, "caret 1 selected 1 from 0");
        grown("ab", 0, 2, "caret 2 selected 2 from 0");
        grown(SIXTY, 0, 60, "caret 60 selected 60 from 0");
        grown("(ab)c", 0, 2, "caret 5 selected 2 from 0");
        grown("(ab)c", 1, 2, "caret 3 selected 2 from 1");
        grown("x/(ab)", 3, 2, "caret 5 selected 2 from 3");
    }

    private static void growToTheRow() {
        sentence("Promise 15", "all items of the row are selected, if not all were.");
        grownFrom("abc", 0, 1, 3, "caret 3 selected 3 from 0");
        grownFrom("abc", 1, 2, 3, "caret 3 selected 3 from 0");
        grownFrom("abc", 2, 3, 3, "caret 3 selected 3 from 0");
        grownFrom("abc", 0, 2, 3, "caret 3 selected 3 from 0");
        grownFrom("abc", 1, 3, 3, "caret 3 selected 3 from 0");
        grownFrom("x(ab)y", 2, 3, 2, "caret 4 selected 2 from 2");
        grownFrom("x(ab)y", 3, 4, 2, "caret 4 selected 2 from 2");
        // 0 [ 1 a 2 b 3 | 4 c 5 d 6 ] 7
        grownFrom("(ab)/(cd)", 2, 3, 2, "caret 3 selected 2 from 1");
        grownFrom("(ab)/(cd)", 4, 5, 2, "caret 6 selected 2 from 4");
        grownFrom(SIXTY, 0, 59, 60, "caret 60 selected 60 from 0");
    }

    private static void growToTheStructure() {
        sentence("Promise 15",
            "Otherwise, and if the row is empty, the structure whose slot the row is is selected alone, in its row.");
        String[] full = {"xa/by", "x^(a)y", "x_(a)y", "xr(a)y", "x(a)y"};
        String[] empty = {"x()/()y", "x^()y", "x_()y", "xr()y", "x()y"};
        for (int kind = 1; kind <= 5; kind++) {
            FormulaEditor x = selecting(full[kind - 1], 2, 3);
            int end = x.about(1) - 2;
            due("grow from all of a slot", answer(x::grow), 1);
            due("the structure", x.selection(2) + " to " + x.about(2), "1 to " + end);
            FormulaEditor y = at(empty[kind - 1], 2);
            end = y.about(1) - 2;
            due("grow from an empty slot", answer(y::grow), 1);
            due("the structure", y.selection(2) + " to " + y.about(2), "1 to " + end);
        }
        // 0 x 1 [ 2 a 3 | 4 b 5 ] 6 y 7
        grownFrom("xa/by", 4, 5, 1, "caret 6 selected 1 from 1");
        grown("x()/()y", 3, 1, "caret 4 selected 1 from 1");
        FormulaEditor z = at(DEEPEST, 5);
        for (int level = 5; level >= 0; level--) {
            due("from level " + level, answer(z::grow), 1);
        }
        due("the main row at last", all(z), DEEPEST + " caret 11 selected 1 from 0");
    }

    private static void growNoMore() {
        sentence("Promise 15", "Throws `IllegalStateException` if this would be a structure and the row is the main row");
        grown("", 0, STATE, "caret 0 selected 0 from 0");
        grownFrom("a", 0, 1, STATE, "caret 1 selected 1 from 0");
        grownFrom("ab", 0, 2, STATE, "caret 2 selected 2 from 0");
        grownFrom("(a)", 0, 3, STATE, "caret 3 selected 1 from 0");
        grownFrom(SIXTY, 0, 60, STATE, "caret 60 selected 60 from 0");
    }

    // ---- promise 16

    private static void promise16() {
        sentence("Promise 16", "Throws `IllegalStateException` if there is no selection");
        due("in an empty formula", answer(() -> new FormulaEditor().copy()), STATE);
        due("at the first place", answer(() -> at("ab", 0).copy()), STATE);
        due("at the last place", answer(() -> at("ab", 2).copy()), STATE);
        due("in an empty slot", answer(() -> at("()", 1).copy()), STATE);
        due("of one item", answer(() -> selecting("ab", 1, 2).copy()), 1);
        FormulaEditor refused = copying("ab", 0, 1);
        refused.moveTo(2);
        due("with a full clipboard", answer(refused::copy), STATE);
        due("the clipboard stays", refused.about(5), 1);
        sentence("Promise 16", "Returns the number of items in the clipboard then (in all rows).");
        due("one", answer(() -> selecting("a", 0, 1).copy()), 1);
        due("in all rows", answer(() -> selecting(DEEPEST, 0, 11).copy()), 6);
        due("60", answer(() -> selecting(SIXTY, 0, 60).copy()), 60);
        sentence("Promise 16", "Copies the selected items to the clipboard, in place of what is there.");
        FormulaEditor x = copying("a/bc", 0, 5);
        x.moveTo(6);
        x.extend(false);
        due("less than is there", answer(x::copy), 1);
        due("the formula stays", all(x), "a/bc caret 6 selected 1 from 5");
        x.moveTo(0);
        x.paste();
        due("only the last copied", linear(x), "ca/bc");
        x.grow();
        x.grow();
        due("more than is there", answer(x::copy), 5);
        x.replace('a', 'z');
        x.moveTo(0);
        x.paste();
        due("as it was when it was copied", linear(x), "ca/bccz/bc");
    }

    // ---- promise 17

    private static void typed(FormulaEditor x, int c, Object want, String then) {
        due("type('" + (char) c + "') in " + all(x), answer(() -> x.type(c)), want);
        due("all then", all(x), then);
    }

    private static void promise17() {
        sentence("Promise 17", "Inserts a symbol at the caret, in place of the selection if there is one. The caret is behind it "
            + "then; there is no selection.");
        typed(at("", 0), 'x', 1, "x caret 1 selected 0 from 1");
        typed(at("ab", 0), 'x', 3, "xab caret 1 selected 0 from 1");
        typed(at("ab", 2), 'x', 3, "abx caret 3 selected 0 from 3");
        typed(at("()", 1), 'x', 2, "(x) caret 2 selected 0 from 2");
        typed(at("a/b", 2), 'x', 4, "(ax)/b caret 3 selected 0 from 3");
        typed(at("a/b", 3), 'x', 4, "a/(xb) caret 4 selected 0 from 4");
        typed(at(DEEPEST, 6), 'x', 7, "(((((ax))))) caret 7 selected 0 from 7");
        typed(selecting("abc", 0, 1), 'x', 3, "xbc caret 1 selected 0 from 1");
        typed(selecting("abc", 2, 3), 'x', 3, "abx caret 3 selected 0 from 3");
        typed(selecting(SIXTY, 0, 60), 'x', 1, "x caret 1 selected 0 from 1");
        typed(selecting(DEEPEST, 0, 11), 'x', 1, "x caret 1 selected 0 from 1");
        typed(selecting(DEEPEST, 5, 6), 'x', 6, "(((((x))))) caret 6 selected 0 from 6");
        sentence("Promise 17", "Throws `IllegalArgumentException` if c is not the code of a symbol");
        FormulaEditor x = loaded("a");
        refusedFor("type", ARGUMENT, x::type, -1, 0, 1, 5, ' ', ')', '/', ':', ';', '<', '>', '@', 'A', 'Z', '`', 'r', '{', '?',
            '_', '^', '(', 255, 256, 256 + 'a');
        for (int c : new int[] {'a', 'q', 's', 'z', '0', '9', '*', '+', ',', '-', '.', '='}) {
            due("type(" + c + ")", answer(() -> loaded("").type(c)), 1);
        }
        sentence("Promise 17", "Throws `IllegalStateException` if the formula would be too large");
        typed(symbols(59), 'x', 60, "a".repeat(59) + "x caret 60 selected 0 from 60");
        typed(symbols(60), 'x', STATE, SIXTY + " caret 60 selected 0 from 60");
        typed(at("(" + "a".repeat(59) + ")", 1), 'x', STATE, "(" + "a".repeat(59) + ") caret 1 selected 0 from 1");
        typed(selecting(SIXTY, 59, 60), 'x', 60, "a".repeat(59) + "x caret 60 selected 0 from 60");
    }

    // ---- promise 18

    private static void wrapped(String text, int from, int to, int kind, int caret, String then) {
        FormulaEditor x = selecting(text, from, to);
        due("wrap(" + kind + ") in " + all(x), answer(() -> x.wrap(kind)), caret);
        due("all then", all(x), then + " caret " + caret + " selected 0 from " + caret);
    }

    private static void promise18() {
        wrapNothing();
        wrapASelection();
        wrapRefused();
    }

    private static void wrapNothing() {
        sentence("Promise 18", "Inserts a structure at the caret, with empty slots");
        String[] made = {"()/()", "^()", "_()", "r()", "()"};
        for (int kind = 1; kind <= 5; kind++) {
            wrapped("", 0, 0, kind, 1, made[kind - 1]);
            wrapped("+-", 0, 0, kind, 1, made[kind - 1] + "+-");
            wrapped("+-", 1, 1, kind, 2, "+" + made[kind - 1] + "-");
            wrapped("+-", 2, 2, kind, 3, "+-" + made[kind - 1]);
            wrapped("(((())))", 4, 4, kind, 5, "((((" + made[kind - 1] + "))))");
        }
        sentence("Promise 18", "for a fraction with both slots empty, it goes to slot 0.");
        FormulaEditor x = new FormulaEditor();
        x.wrap(1);
        due("slot", x.place(x.about(2), 4), 0);
        due("kind", x.place(x.about(2), 3), 1);
    }

    private static void wrapASelection() {
        sentence("Promise 18", "if there is a selection, the selected items become the items of its slot 0. The caret goes to the "
            + "last slot if it is empty, and otherwise behind the structure");
        wrapped("a", 0, 1, 1, 3, "a/()");
        wrapped("a", 0, 1, 2, 3, "^a");
        wrapped("a", 0, 1, 3, 3, "_a");
        wrapped("a", 0, 1, 4, 3, "r(a)");
        wrapped("a", 0, 1, 5, 3, "(a)");
        wrapped("abc", 1, 2, 1, 4, "ab/()c");
        wrapped("abc", 0, 2, 4, 4, "r(ab)c");
        wrapped("abc", 1, 3, 5, 5, "a(bc)");
        wrapped("abc", 0, 3, 2, 5, "^(abc)");
        // an empty structure that is selected is an item of the slot, which is not empty then
        wrapped("()", 0, 2, 5, 4, "(())");
        wrapped("()", 0, 2, 1, 4, "(())/()");
        wrapped("a/b", 3, 4, 1, 6, "a/(b/())");
        FormulaEditor x = selecting("a".repeat(59), 0, 59);
        due("59 items", answer(() -> x.wrap(4)), 61);
        due("60 items then", linear(x), "r(" + "a".repeat(59) + ")");
    }

    private static void wrapRefused() {
        sentence("Promise 18", "Throws `IllegalArgumentException` if kind is out of range");
        FormulaEditor x = loaded("");
        refusedFor("wrap", ARGUMENT, x::wrap, -1, 0, 6, 7, 'a');
        due("wrap(1)", answer(() -> loaded("").wrap(1)), 1);
        due("wrap(5)", answer(() -> loaded("").wrap(5)), 1);
        sentence("Promise 18", "Throws `IllegalStateException` if the formula would be too large");
        for (int kind = 1; kind <= 5; kind++) {
            int chosen = kind;
            due("59 items", answer(() -> at("a".repeat(59), 0).wrap(chosen)), 1);
            due("60 items", answer(() -> at(SIXTY, 0).wrap(chosen)), STATE);
            due("60 items, one selected", answer(() -> selecting(SIXTY, 0, 1).wrap(chosen)), STATE);
            due("60 items, all selected", answer(() -> selecting(SIXTY, 0, 60).wrap(chosen)), STATE);
            due("level 5", answer(() -> at(DEEPEST, 4).wrap(chosen)), 5);
            due("level 6", answer(() -> at(DEEPEST, 5).wrap(chosen)), STATE);
        }
    }

    // ---- promise 19

    private static void deleted(FormulaEditor x, Object want, String then) {
        due("backspace in " + all(x), answer(x::backspace), want);
        due("all then", all(x), then);
    }

    private static void promise19() {
        deleteTheSelection();
        deleteTheItemBefore();
        enterTheItemBefore();
        dissolve();
        nothingToDelete();
        sentence("Promise 19", "Returns how many items there are less.");
        due("none", answer(() -> at("(a)", 3).backspace()), 0);
        due("one", answer(() -> at("(a)", 2).backspace()), 1);
        due("a structure", answer(() -> at("(a)", 1).backspace()), 1);
        due("in all rows", answer(() -> selecting(DEEPEST, 0, 11).backspace()), 6);
        due("60", answer(() -> selecting(SIXTY, 0, 60).backspace()), 60);
    }

    private static void deleteTheSelection() {
        sentence("Promise 19", "With a selection, the selected items are removed; the caret is where they were.");
        deleted(selecting("abc", 0, 1), 1, "bc caret 0 selected 0 from 0");
        deleted(selecting("abc", 1, 2), 1, "ac caret 1 selected 0 from 1");
        deleted(selecting("abc", 2, 3), 1, "ab caret 2 selected 0 from 2");
        deleted(selecting("abc", 0, 3), 3, " caret 0 selected 0 from 0");
        deleted(selecting(SIXTY, 0, 60), 60, " caret 0 selected 0 from 0");
        deleted(selecting("x" + DEEPEST, 1, 12), 6, "x caret 1 selected 0 from 1");
        deleted(selecting("(ab)", 1, 3), 2, "() caret 1 selected 0 from 1");
        deleted(selecting("a/b", 3, 4), 1, "a/() caret 3 selected 0 from 3");
    }

    private static void deleteTheItemBefore() {
        sentence("Promise 19",
            "if there is an item before the caret, it is removed if it is a symbol or if all its slots are empty");
        for (int i = 0; i < SYMBOLS.length(); i++) {
            deleted(at("x" + SYMBOLS.charAt(i), 2), 1, "x caret 1 selected 0 from 1");
        }
        String[] empty = {"()/()", "^()", "_()", "r()", "()"};
        for (String structure : empty) {
            FormulaEditor x = loaded("x" + structure + "y");
            x.moveTo(x.about(1) - 2);
            deleted(x, 1, "xy caret 1 selected 0 from 1");
        }
        deleted(at("a", 1), 1, " caret 0 selected 0 from 0");
        deleted(at("(a)", 2), 1, "() caret 1 selected 0 from 1");
        deleted(at(SIXTY, 60), 1, "a".repeat(59) + " caret 59 selected 0 from 59");
        deleted(at(SIXTY, 1), 1, "a".repeat(59) + " caret 0 selected 0 from 0");
    }

    private static void enterTheItemBefore() {
        sentence("Promise 19", "if not, the caret goes to the last place of its last slot, and nothing is removed.");
        deleted(at("a/b", 5), 0, "a/b caret 4 selected 0 from 4");
        deleted(at("a/()", 4), 0, "a/() caret 3 selected 0 from 3");
        deleted(at("()/b", 4), 0, "()/b caret 3 selected 0 from 3");
        deleted(at("^a", 3), 0, "^a caret 2 selected 0 from 2");
        deleted(at("_(ab)", 4), 0, "_(ab) caret 3 selected 0 from 3");
        deleted(at("r(a)", 3), 0, "r(a) caret 2 selected 0 from 2");
        deleted(at("(())", 4), 0, "(()) caret 3 selected 0 from 3");
        FormulaEditor x = at(DEEPEST, 11);
        for (int place = 10; place >= 6; place--) {
            deleted(x, 0, DEEPEST + " caret " + place + " selected 0 from " + place);
        }
        deleted(x, 1, "((((())))) caret 5 selected 0 from 5");
    }

    private static void dissolve() {
        sentence("Promise 19", "Otherwise, if the row is a slot, its structure is dissolved: it is replaced by the items of its "
            + "slots, slot 0 first, and the caret is before what were the items of its row.");
        deleted(at("x^(ab)y", 2), 1, "xaby caret 1 selected 0 from 1");
        deleted(at("x_(ab)y", 2), 1, "xaby caret 1 selected 0 from 1");
        deleted(at("xr(ab)y", 2), 1, "xaby caret 1 selected 0 from 1");
        deleted(at("x(ab)y", 2), 1, "xaby caret 1 selected 0 from 1");
        // 0 x 1 [ 2 a 3 b 4 | 5 c 6 d 7 ] 8 y 9
        deleted(at("x(ab)/(cd)y", 2), 1, "xabcdy caret 1 selected 0 from 1");
        deleted(at("x(ab)/(cd)y", 5), 1, "xabcdy caret 3 selected 0 from 3");
        deleted(at("x()/(cd)y", 2), 1, "xcdy caret 1 selected 0 from 1");
        deleted(at("x()/(cd)y", 3), 1, "xcdy caret 1 selected 0 from 1");
        deleted(at("x(ab)/()y", 2), 1, "xaby caret 1 selected 0 from 1");
        deleted(at("x(ab)/()y", 5), 1, "xaby caret 3 selected 0 from 3");
        for (int place = 2; place <= 3; place++) {
            deleted(at("x()/()y", place), 1, "xy caret 1 selected 0 from 1");
        }
        deleted(at("()", 1), 1, " caret 0 selected 0 from 0");
        deleted(at("a/b", 1), 1, "ab caret 0 selected 0 from 0");
        deleted(at("a/b", 3), 1, "ab caret 1 selected 0 from 1");
        // inner structures stay whole, outer ones too: 0 [ 1 [ 2 a 3 | 4 b 5 ] 6 | 7 c 8 ] 9
        deleted(at("a/b/c", 7), 1, "a/bc caret 5 selected 0 from 5");
        deleted(at("a/b/c", 1), 1, "a/bc caret 0 selected 0 from 0");
        deleted(at("a/b/c", 4), 1, "(ab)/c caret 2 selected 0 from 2");
        deleted(at("a/b/c", 2), 1, "(ab)/c caret 1 selected 0 from 1");
        deleted(at(DEEPEST, 5), 1, "((((a)))) caret 4 selected 0 from 4");
        deleted(at(DEEPEST, 1), 1, "((((a)))) caret 0 selected 0 from 0");
        deleted(at("r(" + "a".repeat(58) + ")b", 1), 1, "a".repeat(58) + "b caret 0 selected 0 from 0");
    }

    private static void nothingToDelete() {
        sentence("Promise 19",
            "Throws `IllegalStateException` if there is no selection, and the caret is at the first place of the main row");
        deleted(at("", 0), STATE, " caret 0 selected 0 from 0");
        deleted(at("ab", 0), STATE, "ab caret 0 selected 0 from 0");
        deleted(at("a/b", 0), STATE, "a/b caret 0 selected 0 from 0");
        deleted(at(SIXTY, 0), STATE, SIXTY + " caret 0 selected 0 from 0");
    }

    // ---- promise 20

    private static void pasted(FormulaEditor x, int place, Object want, String then) {
        x.moveTo(place);
        due("paste in " + all(x), answer(x::paste), want);
        due("all then", all(x), then);
    }

    private static void promise20() {
        sentence("Promise 20", "Inserts the items of the clipboard at the caret, in place of the selection if there is one. The "
            + "caret is behind them then; there is no selection.");
        pasted(copying("ab", 0, 1), 0, 3, "aab caret 1 selected 0 from 1");
        pasted(copying("ab", 0, 1), 2, 3, "aba caret 3 selected 0 from 3");
        pasted(copying("a/b", 0, 5), 1, 6, "(a/ba)/b caret 6 selected 0 from 6");
        pasted(copying("a/b", 0, 5), 4, 6, "a/(ba/b) caret 9 selected 0 from 9");
        pasted(copying("ab()", 0, 2), 3, 5, "ab(ab) caret 5 selected 0 from 5");
        FormulaEditor x = copying("ab", 0, 2);
        due("in place of what was copied", answer(x::paste), 2);
        due("all then", all(x), "ab caret 2 selected 0 from 2");
        FormulaEditor y = copying("ab" + DEEPEST, 0, 2);
        y.extend(true);
        due("in place of all", answer(y::paste), 2);
        due("all then", all(y), "ab caret 2 selected 0 from 2");
        sentence("Promise 20",
            "Throws `IllegalStateException` if the clipboard is empty, or the formula would be too large");
        pasted(at("ab", 0), 1, STATE, "ab caret 1 selected 0 from 1");
        due("an empty clipboard with a selection", answer(() -> selecting("ab", 0, 1).paste()), STATE);
        pasted(copying("a".repeat(30), 0, 30), 30, 60, SIXTY + " caret 60 selected 0 from 60");
        pasted(copying("a".repeat(31), 0, 30), 31, STATE, "a".repeat(31) + " caret 31 selected 0 from 31");
        pasted(copying(SIXTY, 0, 1), 60, STATE, SIXTY + " caret 60 selected 0 from 60");
        FormulaEditor z = copying(SIXTY, 0, 60);
        due("60 in place of 60", answer(z::paste), 60);
        pasted(z, 0, STATE, SIXTY + " caret 0 selected 0 from 0");
        z.load();
        put(z, "");
        z.load();
        pasted(z, 0, 60, SIXTY + " caret 60 selected 0 from 60");
        // 0 ( 1 ( 2 ( 3 ( 4 ( 5 a 6 ) 7: what is copied reaches one level down
        pasted(copying(DEEPEST, 4, 7), 4, 8, "(((((a)(a))))) caret 7 selected 0 from 7");
        pasted(copying(DEEPEST, 4, 7), 5, STATE, DEEPEST + " caret 5 selected 0 from 5");
    }

    // ---- promise 21

    private static void promise21() {
        sentence("Promise 21", "Replaces each symbol of a kind by another one, in all rows.");
        due("on all levels", answer(() -> loaded("a(a(a(a(a(a)))))").replace('a', 'z')), 6);
        FormulaEditor y = loaded("a(a(a(a(a/a)a)))a^a_a");
        due("in all rows", answer(() -> y.replace('a', '+')), 10);
        due("then", linear(y), "+(+(+(+((+)/(+))+)))+^(+)_(+)");
        due("the first and the last symbol", answer(() -> y.replace('+', '*')), 10);
        sentence("Promise 21", "Returns how many symbols were c.");
        due("none of none", answer(() -> loaded("").replace('a', 'b')), 0);
        due("none", answer(() -> loaded("b").replace('a', 'b')), 0);
        due("one", answer(() -> loaded("ab").replace('a', 'b')), 1);
        due("60", answer(() -> loaded(SIXTY).replace('a', 'b')), 60);
        due("by itself", answer(() -> loaded("aba").replace('a', 'a')), 2);
        FormulaEditor shorter = symbols(3);
        shorter.backspace();
        due("none that was deleted", answer(() -> shorter.replace('a', 'b')), 2);
        FormulaEditor emptied = selecting(SIXTY, 0, 60);
        emptied.backspace();
        due("none of 60 that were deleted", answer(() -> emptied.replace('a', 'b')), 0);
        sentence("Promise 21", "The caret and the selection stay.");
        FormulaEditor z = selecting("ba/(ab)b", 1, 7);
        z.replace('a', 'c');
        due("all", all(z), "bc/(cb)b caret 7 selected 1 from 1");
        sentence("Promise 21", "Throws `IllegalArgumentException` if c or d is not the code of a symbol");
        FormulaEditor u = loaded("ab()/()");
        int[] others = {-1, 0, 1, 2, 3, 4, 5, 6, 11, 15, ' ', '(', ')', '/', ':', '@', '`', 'r', '{', 255, 256, 256 + 'a'};
        refusedFor("replace(.., 'a')", ARGUMENT, c -> u.replace(c, 'a'), others);
        refusedFor("replace('a', ..)", ARGUMENT, d -> u.replace('a', d), others);
        refusedFor("replace('q', ..)", ARGUMENT, d -> u.replace('q', d), others);
        due("all is as it was", linear(u), "ab()/()");
        for (int i = 0; i < SYMBOLS.length(); i++) {
            FormulaEditor v = loaded(SYMBOLS);
            char c = SYMBOLS.charAt(i);
            due("each symbol", answer(() -> v.replace(c, SYMBOLS.charAt(40))), 1);
        }
    }

    // ---- promise 22

    private static void promise22() {
        sentence("Promise 22", "Throws `IllegalStateException` if none is remembered");
        due("in a new object", answer(() -> new FormulaEditor().undo()), STATE);
        FormulaEditor x = symbols(1);
        due("one", answer(x::undo), 0);
        due("one more", answer(x::undo), STATE);
        due("the formula", linear(x), "");
        sentence("Promise 22", "Returns how many actions are still remembered.");
        FormulaEditor y = symbols(15);
        for (int left = 13; left >= 0; left--) {
            due("undo", answer(y::undo), left);
        }
        due("the 15th", answer(y::undo), STATE);
        due("the first action stays", linear(y), "a");
        y.type('b');
        due("one action then", answer(y::undo), 0);
        sentence("Promise 22", "Takes back the last action that is remembered: the formula, the caret and the selection become "
            + "as they were before it.");
        FormulaEditor z = selecting("ab/c", 0, 1);
        String first = all(z);
        z.wrap(5);
        String second = all(z);
        z.moveTo(0);
        z.type('x');
        z.moveTo(2);
        z.undo();
        due("the last one, with the caret where it was then", all(z), second.replace("caret 3", "caret 0").replace("from 3",
            "from 0"));
        z.grow();
        z.undo();
        due("the one before", all(z), first);
    }

    // ---- promises 23 and 24

    private static void promise23() {
        sentence("Promise 23", "0: its width; 1: the number of its lines; 2: the number of lines above its base line");
        int[] empty = {1, 1, 0};
        int[] fraction = {3, 3, 1};
        int[] wide = {180, 1, 0};
        int[] tall = {1, 63, 31};
        for (int what = 0; what < 3; what++) {
            due("drawing(" + what + ") of nothing", loaded("").drawing(what), empty[what]);
            due("drawing(" + what + ") of a/(bcd)", loaded("a/(bcd)").drawing(what), fraction[what]);
            due("drawing(" + what + ") of the widest", widest().drawing(what), wide[what]);
            due("drawing(" + what + ") of the tallest", tallest().drawing(what), tall[what]);
        }
        due("nothing below", loaded("^a").drawing(1), 2);
        due("nothing above", loaded("_a").drawing(2), 0);
        sentence("Promise 23", "Throws `IllegalArgumentException` if what is not 0 to 2");
        FormulaEditor x = loaded("a");
        refusedFor("drawing", ARGUMENT, x::drawing, -1, 3);
    }

    private static void corners(FormulaEditor x, int width, int lines, int... signs) {
        due("the first of the first line", answer(() -> x.drawn(0, 0)), signs[0]);
        due("the last of the first line", answer(() -> x.drawn(width - 1, 0)), signs[1]);
        due("the first of the last line", answer(() -> x.drawn(0, lines - 1)), signs[2]);
        due("the last of the last line", answer(() -> x.drawn(width - 1, lines - 1)), signs[3]);
        refusedFor("drawn(.., 0)", INDEX, column -> x.drawn(column, 0), -1, width);
        refusedFor("drawn(.., last line)", INDEX, column -> x.drawn(column, lines - 1), -1, width);
        refusedFor("drawn(0, ..)", INDEX, line -> x.drawn(0, line), -1, lines);
        refusedFor("drawn(last column, ..)", INDEX, line -> x.drawn(width - 1, line), -1, lines);
        refusedFor("drawn(width, ..)", INDEX, line -> x.drawn(width, line), -1, lines);
    }

    private static void promise24() {
        sentence("Promise 24", "Throws `IndexOutOfBoundsException` if the drawing has no such column or line");
        corners(loaded(""), 1, 1, '?', '?', '?', '?');
        corners(loaded("ab"), 2, 1, 'a', 'b', 'a', 'b');
        corners(loaded("(ab)/(cd)"), 2, 3, 'a', 'b', 'c', 'd');
        corners(loaded("a^b"), 2, 2, ' ', 'b', 'a', ' ');
        corners(widest(), 180, 1, '(', ')', '(', ')');
        corners(tallest(), 1, 63, '?', '?', '?', '?');
        sentence("Promise 24", "Returns its code; 32 where nothing is drawn.");
        FormulaEditor x = loaded("a/(bcd)r(e)");
        due("all", drawn(x), " a  _|---Ve|bcd  |");
        due("left of the a", x.drawn(0, 0), 32);
        due("right of the a", x.drawn(2, 0), 32);
        due("below the root", x.drawn(4, 2), 32);
        due("over the V", x.drawn(3, 0), 32);
        sentence("Promise 24", "y`: line, from 0, the uppermost one first");
        due("line 0", x.drawn(1, 0), (int) 'a');
        due("line 2", x.drawn(1, 2), (int) 'c');
    }

    // ---- promise 25

    private static void promise25() {
        numberOfCommands();
        digitsOfAScript();
        allGroups();
        movesInScripts();
        failingCommands();
        comparingCommands();
        firstThatFails();
        onACopy();
        sentence("Promise 25", "1 x y z: types the symbol with the code xyz. 2 0 0 k: wraps with kind k.");
        FormulaEditor x = new FormulaEditor();
        due("the least code, with a 0 in front", x.runScript(3, 1042_7001_9001L), NONE);
        due("the greatest code", x.runScript(2, 1122_8001), NONE);
        for (int kind = 1; kind <= 5; kind++) {
            // the width tells the kind: 1 for a fraction and scripts, 2 for a root, 3 for parentheses
            due("kind " + kind, x.runScript(3, 2000_8001_9000L + kind * 1_0000_0000L + Math.max(1, kind - 2)), NONE);
        }
        sentence("Promise 25", "5 0 0 0: deletes backwards. 6 0 0 0: lets the selection grow.");
        due("one deleted", symbols(60).runScript(2, 5000_7059), NONE);
        due("all grown to and deleted", symbols(60).runScript(4, 6000_6000_5000_7000L), NONE);
    }

    private static void numberOfCommands() {
        sentence("Promise 25", "Throws `IllegalArgumentException` if n is out of range");
        FormulaEditor x = loaded("ab");
        due("n 1", answer(() -> x.runScript(1, 7002)), NONE);
        due("n 4", answer(() -> x.runScript(4, 7002_7002_7002_7002L)), NONE);
        refusedFor("n", ARGUMENT, n -> x.runScript(n, 7002), -1, 0, 5);
        refusedFor("n with a negative script", ARGUMENT, n -> x.runScript(n, -1), -1, 0, 5);
        refusedFor("n with the script 0", ARGUMENT, n -> x.runScript(n, 0), -1, 0, 5);
    }

    private static void digitsOfAScript() {
        sentence("Promise 25", "or if script is negative or has more than 4 * n digits");
        FormulaEditor x = loaded("ab");
        long tooMany = 1;
        for (int n = 1; n <= 4; n++) {
            int commands = n;
            tooMany *= 10000;
            long first = tooMany;
            due("the most digits", answer(() -> x.runScript(commands, first - 1)), 0);
            due("one digit more", answer(() -> x.runScript(commands, first)), ARGUMENT);
            due("all digits", answer(() -> x.runScript(commands, Long.MAX_VALUE)), ARGUMENT);
            due("no digit but 0", answer(() -> x.runScript(commands, 0)), 0);
            due("-1", answer(() -> x.runScript(commands, -1)), ARGUMENT);
            due("the least", answer(() -> x.runScript(commands, Long.MIN_VALUE)), ARGUMENT);
            due("a negative command", answer(() -> x.runScript(commands, -7002)), ARGUMENT);
        }
        sentence("Promise 25", "the first command is the highest group of the number.");
        due("the lower command fails", answer(() -> x.runScript(2, 7002_7003)), 1);
        due("the higher command fails", answer(() -> x.runScript(2, 7003_7002)), 0);
        due("a group of zeros in front", answer(() -> x.runScript(2, 7002)), 0);
        due("a group of zeros behind", answer(() -> x.runScript(2, 7002_0000)), 1);
    }

    /** Every group of four digits on a formula with two items, the caret at place 2, two wide. */
    private static void allGroups() {
        sentence("Promise 25", "Any other group fails.");
        for (int group = 0; group <= 9999; group++) {
            int last3 = group % 1000;
            boolean succeeds;
            switch (group / 1000) {
                case 1: succeeds = last3 < 128 && SYMBOLS.indexOf(last3) >= 0; break;
                case 2: succeeds = last3 >= 1 && last3 <= 5; break;
                case 3: case 4: succeeds = last3 <= 99; break;
                case 5: case 6: succeeds = last3 == 0; break;
                case 7: case 8: case 9: succeeds = last3 == 2; break;
                default: succeeds = false; break;
            }
            FormulaEditor x = symbols(2);
            due("group " + group, x.runScript(1, group), succeeds ? NONE : 0);
        }
    }

    private static void movesInScripts() {
        sentence("Promise 25", "3 0 x y: moves the caret by xy places to the right. 4 0 x y: likewise, to the left.");
        FormulaEditor x = at(SIXTY, 0);
        due("by 0", x.runScript(2, 3000_8000), NONE);
        due("by 1", x.runScript(2, 3001_8001), NONE);
        due("by 10", x.runScript(2, 3010_8010), NONE);
        due("by 99, which stops at the last place", x.runScript(2, 3099_8060), NONE);
        due("to the left at the first place", x.runScript(2, 4099_8000), NONE);
        due("there and back", x.runScript(3, 3012_4011_8001L), NONE);
        FormulaEditor y = fractions(60);
        y.moveTo(0);
        due("by 99 of 180", x.about(2) + y.runScript(2, 3099_8099), NONE);
        due("by 99 to the left", y.runScript(4, 3099_3001_4099_8001L), NONE);
        FormulaEditor z = selecting("abc", 0, 2);
        due("moving by 0 ends the selection", z.runScript(3, 3000_1120_7004L), NONE);
        due("it is there before", z.runScript(2, 1120_7002), NONE);
        due("to the left by 0 too", z.runScript(3, 4000_5000_7002L), NONE);
    }

    private static void failingCommands() {
        sentence("Promise 25", "The commands 1, 2, 5 and 6 fail if the method with this effect would throw an exception.");
        FormulaEditor full = symbols(60);
        due("type a 61st", full.runScript(1, 1097), 0);
        due("wrap as a 61st", full.runScript(1, 2001), 0);
        due("delete one and type", full.runScript(3, 5000_1097_1098L), 2);
        due("delete one and wrap", full.runScript(3, 5000_2005_2005L), 2);
        due("type in place of one", full.runScript(3, 6000_1098_7060L), NONE);
        due("wrap one", full.runScript(2, 6000_2004), 1);
        FormulaEditor deep = at("((((a))))", 4);
        due("wrap on level 4, and on level 5", deep.runScript(2, 2002_2002), 1);
        due("type on level 5", deep.runScript(2, 2002_1097), NONE);
        FormulaEditor start = at("ab", 0);
        due("delete at the first place", start.runScript(1, 5000), 0);
        due("delete a selection at the first place", start.runScript(2, 6000_5000), NONE);
        due("grow to the main row and no more", start.runScript(2, 6000_6000), 1);
        due("grow in an empty formula", loaded("").runScript(1, 6000), 0);
        due("delete in an empty formula", loaded("").runScript(1, 5000), 0);
        due("a symbol that is none", start.runScript(1, 1114), 0);
        due("kind 0", start.runScript(1, 2000), 0);
        due("kind 6", start.runScript(1, 2006), 0);
    }

    private static void comparingCommands() {
        sentence("Promise 25", "7 0 x y: succeeds if there are xy items. 8 0 x y: succeeds if the caret is at place xy. 9 0 x y: "
            + "succeeds if the drawing is xy wide.");
        FormulaEditor empty = new FormulaEditor();
        due("no items", empty.runScript(1, 7000), NONE);
        due("place 0", empty.runScript(1, 8000), NONE);
        due("1 wide", empty.runScript(1, 9001), NONE);
        due("not 0 wide", empty.runScript(1, 9000), 0);
        FormulaEditor full = symbols(60);
        due("60 items", full.runScript(1, 7060), NONE);
        due("not 59 items", full.runScript(1, 7059), 0);
        due("place 60", full.runScript(1, 8060), NONE);
        due("60 wide", full.runScript(1, 9060), NONE);
        FormulaEditor wide = widest();
        // 180 is more than two digits tell
        due("180 wide", wide.runScript(1, 9080), 0);
        due("place 180", fractions(60).runScript(1, 8080), 0);
        wide.moveTo(99);
        due("place 99", wide.runScript(1, 8099), NONE);
        wide.moveTo(100);
        due("place 100", wide.runScript(1, 8000), 0);
    }

    private static void firstThatFails() {
        sentence("Promise 25", "Returns the index, from 0, of the first command that fails; NONE if all succeed.");
        FormulaEditor x = loaded("");
        due("the first", x.runScript(4, 9999_1097_1097_1097L), 0);
        due("the second", x.runScript(4, 1097_9999_1097_1097L), 1);
        due("the third", x.runScript(4, 1097_1097_9999_1097L), 2);
        due("the last", x.runScript(4, 1097_1097_1097_9999L), 3);
        due("two of them", x.runScript(4, 1097_9999_1097_9999L), 1);
        due("none", x.runScript(4, 1097_1097_1097_7003L), NONE);
    }

    private static void onACopy() {
        sentence("Promise 25", "Runs a script on a copy of the formula, the caret and the selection.");
        FormulaEditor x = selecting("ab/c", 0, 1);
        x.save(0);
        String before = all(x);
        due("a script that succeeds", x.runScript(4, 1120_2001_1121_7006L), NONE);
        due("all", all(x), before);
        due("the same once more", x.runScript(4, 1120_2001_1121_7006L), NONE);
        due("a script that fails", x.runScript(4, 1120_5000_5000_5000L), 2);
        due("all", all(x), before);
        due("it is no action", answer(x::undo), STATE);
        due("the save slot stays", x.restore(0), 4);
        due("all of it", all(x), before);
        due("the clipboard stays", x.about(5), 0);
    }

    // ---- promise 26

    private static void playRounds(FormulaEditor x, long seed, int m) {
        long r = seed;
        for (int i = 0; i < m; i++) {
            r = r * 6364136223846793005L + 1442695040888963407L;
            int round = (int) (r >>> 33);
            int q = round / 8 % 64;
            int what = round % 8;
            answer(() -> what <= 2 ? x.type(97 + q % 17)
                : what <= 4 ? x.wrap(1 + q % 5)
                : what == 5 ? x.moveBy(q - 32)
                : what == 6 ? x.backspace() : x.grow());
        }
    }

    private static void promise26() {
        sentence("Promise 26", "Throws `IllegalArgumentException` if m is out of range");
        FormulaEditor x = loaded("ab");
        refusedFor("simulate", ARGUMENT, m -> x.simulate(1, m), -1, 0, 61);
        sentence("Promise 26", "Simulates m rounds on a copy of the formula, the caret and the selection.");
        long[] seeds = {0, 1, -1, 2, Long.MAX_VALUE, Long.MIN_VALUE, Long.MIN_VALUE + 1, 1L << 32, 1L << 33, -(1L << 33)};
        Maker[] starts = {FormulaEditor::new, () -> selecting("a/bc", 0, 5), () -> symbols(60), () -> at(DEEPEST, 5),
            () -> selecting(SIXTY, 0, 60), () -> selecting("x" + DEEPEST, 1, 12), () -> fractions(60)};
        for (Maker start : starts) {
            for (long seed : seeds) {
                for (int m : new int[] {1, 2, 3, 30, 59, 60}) {
                    FormulaEditor played = start.made();
                    playRounds(played, seed, m);
                    FormulaEditor y = start.made();
                    int want = 1000 * played.about(0) + played.linearLength();
                    due("simulate(" + seed + ", " + m + ")", answer(() -> y.simulate(seed, m)), want);
                    due("the formula itself", all(y), all(start.made()));
                    due("a second time", answer(() -> y.simulate(seed, m)), want);
                }
            }
        }
        sentence("Promise 26", "Where the method with this effect would throw an exception, nothing happens in the round.");
        for (int seed = 0; seed < 2000; seed++) {
            int chosen = seed;
            FormulaEditor full = symbols(60);
            FormulaEditor played = symbols(60);
            playRounds(played, seed, 1);
            due("one round in a full formula", answer(() -> full.simulate(chosen, 1)),
                1000 * played.about(0) + played.linearLength());
        }
        due("a deletion or a growth in nothing", sumOfOneRound(), 0);
        allRounds();
        sentence("Promise 26", "Returns 1000 * (the number of items then) + (the length of the linear text then).");
        // seed 0 makes r % 8 = 5 first: the caret moves, and all else stays
        due("none", answer(() -> new FormulaEditor().simulate(0, 1)), 0);
        due("60", answer(() -> symbols(60).simulate(0, 1)), 60060);
        due("the longest text", answer(() -> fractions(60).simulate(0, 1)), 60300);
    }

    /** Each pair of r % 8 and q once, as the first round and as the first of 20. */
    private static void allRounds() {
        sentence("Promise 26", "With q = r / 8 % 64, the round is:");
        boolean[] played = new boolean[8 * 64];
        int left = played.length;
        for (long seed = 0; seed < 100000 && left > 0; seed++) {
            int round = (int) ((seed * 6364136223846793005L + 1442695040888963407L) >>> 33) % played.length;
            if (!played[round]) {
                played[round] = true;
                left--;
                long chosen = seed;
                for (int m : new int[] {1, 20}) {
                    FormulaEditor y = at("r(ab)/(c^d)e" + "f".repeat(30), 30);
                    playRounds(y, seed, m);
                    FormulaEditor x = at("r(ab)/(c^d)e" + "f".repeat(30), 30);
                    due("simulate(" + seed + ", " + m + ")", answer(() -> x.simulate(chosen, m)),
                        1000 * y.about(0) + y.linearLength());
                }
            }
        }
        due("pairs that were not played", left, 0);
    }

    /** Over all rounds on an empty formula that delete, grow or move: nothing is ever there. */
    private static int sumOfOneRound() {
        int sum = 0;
        for (long seed = 0; seed < 1000; seed++) {
            int round = (int) ((seed * 6364136223846793005L + 1442695040888963407L) >>> 33);
            if (round % 8 >= 5) {
                sum += new FormulaEditor().simulate(seed, 1);
            }
        }
        return sum;
    }

    // ---- promise 27

    private static void promise27() {
        sentence("Promise 27", "Throws `IndexOutOfBoundsException` if there is no such slot");
        FormulaEditor x = loaded("ab");
        due("save(0)", answer(() -> x.save(0)), 2);
        due("save(1)", answer(() -> x.save(1)), 2);
        refusedFor("save", INDEX, x::save, -1, 2);
        sentence("Promise 27", "Returns the number of items.");
        due("none", answer(() -> new FormulaEditor().save(0)), 0);
        due("in all rows", answer(() -> loaded(DEEPEST).save(1)), 6);
        due("60", answer(() -> loaded(SIXTY).save(0)), 60);
        sentence("Promise 27", "Stores the formula, the caret and the selection in a slot.");
        for (int slot = 0; slot <= 1; slot++) {
            int chosen = slot;
            FormulaEditor y = selecting(SIXTY, 0, 60);
            y.save(slot);
            y.backspace();
            due("the other slot is empty", answer(() -> y.restore(1 - chosen)), STATE);
            y.save(1 - slot);
            y.type('b');
            y.restore(slot);
            due("all of slot " + slot, all(y), SIXTY + " caret 60 selected 60 from 0");
            y.restore(1 - slot);
            due("all of the other", all(y), " caret 0 selected 0 from 0");
            y.type('c');
            y.save(slot);
            y.type('d');
            y.restore(slot);
            due("in place of what was there", all(y), "c caret 1 selected 0 from 1");
        }
    }

    // ---- promise 28

    private static void promise28() {
        sentence("Promise 28", "Throws `IndexOutOfBoundsException` if there is no such slot");
        FormulaEditor x = loaded("ab");
        refusedFor("restore of empty slots", INDEX, x::restore, -1, 2);
        sentence("Promise 28", "Throws `IllegalStateException` if the slot is empty");
        due("slot 0", answer(() -> x.restore(0)), STATE);
        due("slot 1", answer(() -> x.restore(1)), STATE);
        x.save(0);
        due("slot 0 then", answer(() -> x.restore(0)), 2);
        due("slot 1 then", answer(() -> x.restore(1)), STATE);
        x.save(1);
        due("slot 1 at last", answer(() -> x.restore(1)), 2);
        sentence("Promise 28", "Throws `IndexOutOfBoundsException` if there is no such slot");
        refusedFor("restore of full slots", INDEX, x::restore, -1, 2);
        sentence("Promise 28", "Throws `IllegalStateException` if the slot is empty");
        x.load();
        due("slot 0 after load", answer(() -> x.restore(0)), STATE);
        due("slot 1 after load", answer(() -> x.restore(1)), STATE);
        FormulaEditor nothing = new FormulaEditor();
        nothing.save(1);
        nothing.type('a');
        due("an empty formula is not an empty slot", answer(() -> nothing.restore(1)), 0);
        sentence("Promise 28", "and forgets all that is remembered.");
        for (int actions : new int[] {1, 13, 14, 15}) {
            FormulaEditor y = symbols(actions);
            y.save(1);
            y.restore(1);
            due("undo of " + actions, answer(y::undo), STATE);
            y.type('b');
            due("undo of one action then", answer(y::undo), 0);
        }
        sentence("Promise 28", "The slot keeps them.");
        FormulaEditor z = selecting("ab/c", 1, 6);
        String before = all(z);
        z.save(0);
        for (int time = 0; time < 3; time++) {
            z.replace('a', 'x');
            z.wrap(5);
            z.type('y');
            due("restore", answer(() -> z.restore(0)), 4);
            due("all", all(z), before);
        }
    }

    // ---- the formula with the most places, in the methods that change formulas

    private static FormulaEditor mostPlacesSelected() {
        FormulaEditor x = fractions(60);
        x.grow();
        x.grow();
        return x;
    }

    private static void mostPlaces() {
        mostPlacesDeleted();
        mostPlacesCopied();
        mostPlacesKept();
        sentence("Promise 24", "Returns a character of the drawing of the main row.");
        due("60 fractions", drawn(fractions(60)), "?".repeat(60) + "|" + "-".repeat(60) + "|" + "?".repeat(60) + "|");
    }

    private static void mostPlacesDeleted() {
        sentence("Promise 19",
            "if there is an item before the caret, it is removed if it is a symbol or if all its slots are empty");
        String less = MOST_PLACES.substring(5);
        deleted(fractions(60), 1, less + " caret 177 selected 0 from 177");
        FormulaEditor x = fractions(60);
        x.moveTo(3);
        deleted(x, 1, less + " caret 0 selected 0 from 0");
        sentence("Promise 19", "Otherwise, if the row is a slot, its structure is dissolved");
        FormulaEditor y = fractions(60);
        y.moveTo(179);
        deleted(y, 1, less + " caret 177 selected 0 from 177");
        sentence("Promise 19", "With a selection, the selected items are removed; the caret is where they were.");
        deleted(mostPlacesSelected(), 60, " caret 0 selected 0 from 0");
        sentence("Promise 17", "Inserts a symbol at the caret, in place of the selection if there is one.");
        typed(mostPlacesSelected(), 'x', 1, "x caret 1 selected 0 from 1");
    }

    private static void mostPlacesCopied() {
        sentence("Promise 20", "Inserts the items of the clipboard at the caret, in place of the selection if there is one.");
        FormulaEditor x = mostPlacesSelected();
        due("copy", answer(x::copy), 60);
        due("paste in place of all", answer(x::paste), 60);
        due("all then", all(x), MOST_PLACES + " caret 180 selected 0 from 180");
        x.load();
        due("paste into nothing", answer(x::paste), 60);
        due("all then", all(x), MOST_PLACES + " caret 180 selected 0 from 180");
        due("paste to it", answer(x::paste), STATE);
        for (int place : new int[] {0, 3, 45, 87, 90}) {
            FormulaEditor y = fractions(30);
            y.grow();
            y.grow();
            y.copy();
            y.moveTo(place);
            due("paste 30 to 30", answer(y::paste), 60);
            due("all then", all(y), MOST_PLACES + " caret " + (place + 90) + " selected 0 from " + (place + 90));
        }
    }

    private static void mostPlacesKept() {
        String all = MOST_PLACES + " caret 180 selected 60 from 0";
        sentence("Promise 22", "Takes back the last action that is remembered: the formula, the caret and the selection become "
            + "as they were before it.");
        FormulaEditor x = mostPlacesSelected();
        x.backspace();
        due("undo", answer(x::undo), 13);
        due("all then", all(x), all);
        sentence("Promise 28", "Replaces the formula, the caret and the selection by those in a slot");
        FormulaEditor y = mostPlacesSelected();
        y.save(1);
        y.backspace();
        due("restore", answer(() -> y.restore(1)), 60);
        due("all then", all(y), all);
    }
}
