/** For each promise of the document: ordinary inputs, the edges that it names, wrong inputs. */
public final class PromiseTests extends Kit {
    public static void main(String[] args) {
        promise1NewObject();
        promise2Append();
        promise3ClearText();
        promise4ErrorPosition();
        promise5Load();
        promise6About();
        promise7Place();
        promise8Selection();
        promise9And10LinearText();
        promise11MoveTo();
        promise12MoveBy();
        promise13MoveVertically();
        promise14Extend();
        promise15Grow();
        promise16Copy();
        promise17Type();
        promise18Wrap();
        promise19Backspace();
        promise20Paste();
        promise21Replace();
        promise22Undo();
        promise23Drawing();
        promise24Drawn();
        promise25RunScript();
        promise26Simulate();
        promise27And28SaveSlots();
        finish("all promises hold");
    }

    // ---- promises

    private static void promise1NewObject() {
        FormulaEditor x = new FormulaEditor();
        int[] about = {0, 1, 0, 0, 0, 0};
        for (int what = 0; what < 6; what++) {
            due("1 about(" + what + ")", x.about(what), about[what]);
        }
        due("1 formula", all(x), " caret 0 selected 0 from 0");
        due("1 drawing", drawn(x), "?|");
        due("1 text", x.clearText(), 0);
        refused("1 undo", STATE, x::undo);
        refused("1 paste", STATE, x::paste);
        refused("1 restore 0", STATE, () -> x.restore(0));
        refused("1 restore 1", STATE, () -> x.restore(1));
    }

    private static void promise2Append() {
        FormulaEditor x = new FormulaEditor();
        due("2 append(0)", x.append(0), 1);
        due("2 append(255)", x.append(255), 2);
        refused("2 append(-1)", ARGUMENT, () -> x.append(-1));
        refused("2 append(256)", ARGUMENT, () -> x.append(256));
        for (int i = 3; i <= 120; i++) {
            due("2 append", x.append('a'), i);
        }
        refused("2 append to 120", STATE, () -> x.append('a'));
        refused("2 the argument comes first", ARGUMENT, () -> x.append(300));
        due("2 nothing was changed", x.clearText(), 120);
    }

    private static void promise3ClearText() {
        FormulaEditor x = loaded("ab");
        due("3 clearText", x.clearText(), 2);
        due("3 clearText again", x.clearText(), 0);
        due("3 append then", x.append('c'), 1);
        due("3 the formula stays", linear(x), "ab");
    }

    private static void errorAt(String text, int position) {
        due("4 errorPosition of " + text, withText(text).errorPosition(), position);
    }

    private static void promise4ErrorPosition() {
        String[] right = {"", " ", "a", "  a  ", "a+b", "+-*=,.", "()", "r()", "a/b", "a/b/c", "(a)/(b)", "^a", "_1",
            "^a^b", "a^b_c/d^e", "^(a)", "^r(a)", "a/b ^2", "r(a)/r(b)", "(()())", "^() ", "a b", "a ^b", "+^a", "(+)",
            "r(^a)", "(a/b)/c", "()/()", "0123456789", "abcdefghijklmnopqstuvwxyz", "a^(b/c)_r(d)", "a^(b)/c",
            "a_(^b)^(c)/d"};
        for (String text : right) {
            errorAt(text, NONE);
        }
        errorAt("r", 1);
        errorAt("ra", 1);
        errorAt("r (", 1);
        errorAt("(", 1);
        errorAt("(a", 2);
        errorAt("r(a", 3);
        errorAt(")", 0);
        errorAt("a)", 1);
        errorAt("(a))", 3);
        errorAt("/a", 0);
        errorAt("a/", 2);
        errorAt("a//b", 2);
        errorAt("a /b", 2);
        errorAt("a/ b", 2);
        errorAt("a+/b", 2);
        errorAt("a/+", 2);
        errorAt("a/^b", 2);
        errorAt("^a/b", 2);
        errorAt("^a^b/c", 4);
        errorAt(" ^(a)/b", 5);
        errorAt("^(a^b)/c", 6);
        errorAt("(^a/b)", 3);
        errorAt("^", 1);
        errorAt("a^", 2);
        errorAt("a^ b", 2);
        errorAt("a^+", 2);
        errorAt("a^^b", 2);
        errorAt("a_)", 2);
        errorAt("(a/)", 3);
        errorAt("A", 0);
        errorAt("aR", 1);
        errorAt("a;b", 1);
        errorAt("a\u0000", 1);
        errorAt("a\u00e9", 1);
        errorAt("a\t", 1);
        errorAt("((a)", 4);
        errorAt("(".repeat(120), 120);
        errorAt("(".repeat(60) + ")".repeat(60), NONE);
        errorAt("^(".repeat(40) + ")".repeat(40), NONE);
        errorAt("r(".repeat(40) + ")".repeat(39) + "/", 120);
        errorAt("r(".repeat(39) + ")".repeat(40), 117);
        errorAt("a/".repeat(59) + "aa", NONE);
        errorAt("a/".repeat(60), 120);
        FormulaEditor x = withText("a)");
        due("4 the first time", x.errorPosition(), 1);
        due("4 the second time", x.errorPosition(), 1);
        due("4 the text stays", x.clearText(), 2);
    }

    private static void readsAs(String text, String again) {
        due("5 formula of " + text, linear(loaded(text)), again);
    }

    private static void promise5Load() {
        due("5 items", withText("a+(b-c)/r(2x)^3").load(), 11);
        due("5 items of nothing", withText("  ").load(), 0);
        readsAs("a b", "ab");
        readsAs("(a)/(b)", "a/b");
        readsAs("((a))/b", "((a))/b");
        readsAs("(a)^2/b", "(a)^2/b");
        readsAs("a^(b)", "a^b");
        readsAs("a^((b))", "a^((b))");
        readsAs("a^(bc)", "a^(bc)");
        readsAs("a/b/c", "(a/b)/c");
        readsAs("a/(b/c)", "a/(b/c)");
        readsAs("(a/b)/c", "(a/b)/c");
        readsAs("((a/b))/c", "((a/b))/c");
        readsAs("a/b^2", "a/b^2");
        readsAs("a/b ^2", "a/b ^2");
        readsAs("a/b ^2_3", "a/b ^2_3");
        readsAs("a/(b)^2", "a/(b)^2");
        readsAs("(a)/(b)/(c)", "(a/b)/c");
        readsAs("^2a/b", "^2a/b");
        readsAs("r(a/b)/()", "r(a/b)/()");
        readsAs("(a/(b)/c+(d))/e^(f/(g))", "((a/b)/c+(d))/e^(f/g)");
        due("5 items of (a)/b", loaded("(a)/b").about(0), 3);
        due("5 items of ((a))/b", loaded("((a))/b").about(0), 4);
        due("5 60 items", withText("a".repeat(60)).load(), 60);
        refused("5 61 items", STATE, () -> withText("a".repeat(61)).load());
        due("5 level 5", withText("(((((a)))))").load(), 6);
        refused("5 level 6", STATE, () -> withText("((((((a))))))").load());
        due("5 level 5 of fractions", withText("a/b/c/d/e/f").load(), 11);
        refused("5 level 6 of fractions", STATE, () -> withText("a/b/c/d/e/f/g").load());
        refused("5 120 brackets", STATE, () -> withText("(".repeat(60) + ")".repeat(60)).load());
        loadForgets();
    }

    private static void loadForgets() {
        FormulaEditor x = loaded("ab");
        x.moveTo(2);
        x.grow();
        x.copy();
        x.type('c');
        x.save(0);
        x.save(1);
        put(x, "a)");
        refused("5 not a linear text", STATE, x::load);
        due("5 nothing was changed", all(x), "ac caret 2 selected 0 from 2");
        due("5 restore after no load", x.restore(1), 2);
        x.type('d');
        x.grow();
        put(x, "x/y");
        due("5 load", x.load(), 3);
        due("5 after load", all(x), "x/y caret 0 selected 0 from 0");
        due("5 the clipboard stays", x.about(5), 1);
        refused("5 nothing is remembered", STATE, x::undo);
        refused("5 slot 0 is empty", STATE, () -> x.restore(0));
        refused("5 slot 1 is empty", STATE, () -> x.restore(1));
        due("5 the text stays", x.clearText(), 3);
        due("5 paste then", x.paste(), 4);
        due("5 one is remembered", x.undo(), 0);
    }

    private static void promise6About() {
        FormulaEditor x = loaded("()/(a^())+b");
        x.moveTo(3);
        int[] about = {5, 9, 3, 2, 2, 0};
        for (int what = 0; what < 6; what++) {
            due("6 about(" + what + ")", x.about(what), about[what]);
        }
        refused("6 about(-1)", ARGUMENT, () -> x.about(-1));
        refused("6 about(6)", ARGUMENT, () -> x.about(6));
        x.moveTo(0);
        x.extend(true);
        x.copy();
        due("6 the clipboard", x.about(5), 3);
        due("6 no empty slot in an empty main row", new FormulaEditor().about(4), 0);
    }

    private static void promise7Place() {
        // places: 0 a 1 [ 2 b 3 c 4 | 5 d 6 ] 7 ( 8 ) 9
        FormulaEditor x = loaded("a(bc)/d()");
        int[][] places = {{0, 0, 3, 0, 0, 'a'}, {0, 1, 3, 0, 0, 1}, {1, 0, 2, 1, 0, 'b'}, {1, 1, 2, 1, 0, 'c'},
            {1, 2, 2, 1, 0, NONE}, {1, 0, 1, 1, 1, 'd'}, {1, 1, 1, 1, 1, NONE}, {0, 2, 3, 0, 0, 5}, {1, 0, 0, 5, 0, NONE},
            {0, 3, 3, 0, 0, NONE}};
        for (int p = 0; p < places.length; p++) {
            for (int what = 0; what < 6; what++) {
                due("7 place(" + p + ", " + what + ")", x.place(p, what), places[p][what]);
            }
        }
        refused("7 place(-1, 0)", INDEX, () -> x.place(-1, 0));
        refused("7 place(10, 0)", INDEX, () -> x.place(10, 0));
        refused("7 place(0, -1)", ARGUMENT, () -> x.place(0, -1));
        refused("7 place(0, 6)", ARGUMENT, () -> x.place(0, 6));
        refused("7 the place comes first", INDEX, () -> x.place(10, 6));
    }

    private static void promise8Selection() {
        FormulaEditor x = loaded("ab/cd");
        x.moveTo(7);
        due("8 none, items", x.selection(0), 0);
        due("8 none, all items", x.selection(1), 0);
        due("8 none, place", x.selection(2), 7);
        x.extend(false);
        x.extend(false);
        due("8 items", x.selection(0), 2);
        due("8 all items", x.selection(1), 4);
        due("8 place", x.selection(2), 1);
        refused("8 selection(-1)", ARGUMENT, () -> x.selection(-1));
        refused("8 selection(3)", ARGUMENT, () -> x.selection(3));
    }

    private static void promise9And10LinearText() {
        // what reads back as the same formula is written in the shortest of its forms
        String[] same = {"", "a", "+", "a/b", "()/()", "(+)/(a+b)", "(ab)/c", "a^b_c/d", "r(a)^b/r(c)", "(a)^b/((c))",
            "(a/b)/(c/d)", "^a", "^()", "^(a^b)", "^(+)", "^r(a)", "^((a))", "^(a/b)", "a/b ^c", "a/b _c^d", "(^a)/b",
            "(^a^b)/(_c)", "r()", "r(r(a))", "()", "(a)b/c", "a/b^c+d"};
        for (String text : same) {
            due("9 linear text", linear(loaded(text)), text);
            due("9 linearLength of " + text, loaded(text).linearLength(), text.length());
        }
        FormulaEditor x = loaded("a/b");
        due("10 linearAt(1)", x.linearAt(1), (int) '/');
        refused("10 linearAt(-1)", INDEX, () -> x.linearAt(-1));
        refused("10 linearAt(3)", INDEX, () -> x.linearAt(3));
        refused("10 linearAt(0) of nothing", INDEX, () -> new FormulaEditor().linearAt(0));
        theLongestText();
    }

    /** Rows of fractions with empty slots, and of scripts behind fractions. */
    private static void theLongestText() {
        due("9 60 fractions", linear(fractions(60)), "()/()".repeat(60));
        FormulaEditor y = new FormulaEditor();
        for (int i = 0; i < 30; i++) {
            y.wrap(1);
            y.moveTo(y.about(1) - 1);
            y.wrap(2);
            y.moveTo(y.about(1) - 1);
        }
        due("9 30 fractions and scripts", y.linearLength(), 30 * 9);
    }

    private static void promise11MoveTo() {
        FormulaEditor x = loaded("a/b");
        due("11 from 0", x.moveTo(3), 0);
        due("11 from 3", x.moveTo(5), 3);
        due("11 place", x.about(2), 5);
        x.grow();
        refused("11 moveTo(-1)", INDEX, () -> x.moveTo(-1));
        refused("11 moveTo(6)", INDEX, () -> x.moveTo(6));
        due("11 the selection stays", x.selection(0), 1);
        due("11 to the same place", x.moveTo(5), 5);
        due("11 the selection ends", x.selection(0), 0);
    }

    private static void promise12MoveBy() {
        FormulaEditor x = loaded("a/b");
        due("12 right", x.moveBy(2), 2);
        due("12 left", x.moveBy(-1), 1);
        due("12 far right", x.moveBy(200), 5);
        due("12 far left", x.moveBy(-200), 0);
        refused("12 moveBy(201)", ARGUMENT, () -> x.moveBy(201));
        refused("12 moveBy(-201)", ARGUMENT, () -> x.moveBy(-201));
        x.moveTo(5);
        x.grow();
        due("12 no step", x.moveBy(0), 5);
        due("12 the selection ends", x.selection(0), 0);
        x.grow();
        x.moveBy(-1);
        due("12 the steps begin at the caret", all(x), "a/b caret 4 selected 0 from 4");
    }

    private static void vertically(String text, int from, boolean up, int to) {
        FormulaEditor x = loaded(text);
        x.moveTo(from);
        due("13 " + text + " from " + from + (up ? " up" : " down"), x.moveVertically(up), to);
        due("13 caret of " + text + " from " + from, x.about(2), to == NONE ? from : to);
    }

    private static void promise13MoveVertically() {
        // 0 [ 1 a 2 b 3 | 4 c 5 d 6 e 7 ] 8
        vertically("(ab)/(cde)", 6, true, 3);
        vertically("(ab)/(cde)", 7, true, 3);
        vertically("(ab)/(cde)", 4, true, 1);
        vertically("(ab)/(cde)", 5, true, 2);
        vertically("(ab)/(cde)", 2, true, NONE);
        vertically("(ab)/(cde)", 2, false, 5);
        vertically("(ab)/(cde)", 3, false, 6);
        vertically("(ab)/(cde)", 6, false, NONE);
        vertically("(ab)/(cde)", 0, true, NONE);
        // 0 [ 1 a 2 b 3 | 4 c 5 ( 6 d 7 e 8 ) 9 ] 10: the parentheses do not count, c does
        vertically("(ab)/(c(de))", 8, true, 2);
        vertically("(ab)/(c(de))", 9, true, 3);
        // 0 [ 1 [ 2 a 3 | 4 b 5 ] 6 | 7 c 8 ] 9
        vertically("a/b/c", 4, true, 2);
        vertically("a/b/c", 2, false, 4);
        vertically("a/b/c", 5, false, 7);
        vertically("a/b/c", 6, false, 8);
        // 0 [ 1 a 2 | 3 [ 4 b 5 | 6 c 7 ] 8 ] 9: the numerator of the inner one is no denominator,
        // and it has no item before it in the outer one
        vertically("a/(b/c)", 5, true, 1);
        // 0 a 1 ^[ 2 b 3 ] 4 _[ 5 c 6 ] 7
        vertically("a^b_c", 1, true, 2);
        vertically("a^b_c", 1, false, NONE);
        vertically("a^b_c", 4, false, 5);
        vertically("a^b_c", 4, true, NONE);
        vertically("a^b_c", 5, true, 7);
        vertically("a^b_c", 6, true, 7);
        vertically("a^b_c", 6, false, NONE);
        vertically("a^b_c", 3, false, 4);
        vertically("a^b_c", 3, true, NONE);
        vertically("_a", 1, true, 3);
        vertically("^a", 2, false, 3);
        // the script behind the caret comes before the slot that the caret is in
        vertically("_(a^b)", 2, true, 3);
        // only the caret's own row may be the slot of the script
        vertically("_(a(b))", 4, true, NONE);
        // the fraction comes before the script
        vertically("a/(b^c)", 5, true, 2);
        FormulaEditor x = loaded("a^b");
        x.moveTo(1);
        x.extend(false);
        due("13 nothing happens", x.moveVertically(false), NONE);
        due("13 the selection stays", x.selection(0), 1);
        due("13 the caret moves", x.moveVertically(true), 2);
        due("13 the selection ends", x.selection(0), 0);
    }

    private static void promise14Extend() {
        FormulaEditor x = loaded("ab/cd");
        x.moveTo(1);
        due("14 right", x.extend(true), 1);
        due("14 the caret goes", all(x), "ab/cd caret 6 selected 1 from 1");
        due("14 left", x.extend(false), 2);
        due("14 the caret stays", all(x), "ab/cd caret 6 selected 2 from 0");
        due("14 right again", x.extend(true), 3);
        refused("14 no item to the right", STATE, () -> x.extend(true));
        refused("14 no item to the left", STATE, () -> x.extend(false));
        due("14 nothing was changed", all(x), "ab/cd caret 7 selected 3 from 0");
        x.moveTo(3);
        refused("14 the slot ends", STATE, () -> x.extend(true));
        due("14 left in a slot", x.extend(false), 1);
        refused("14 the slot begins", STATE, () -> x.extend(false));
        x.moveTo(4);
        refused("14 the second slot begins", STATE, () -> x.extend(false));
    }

    private static void promise15Grow() {
        // 0 a 1 [ 2 b 3 c 4 | 5 ( 6 ) 7 ] 8 d 9
        FormulaEditor x = loaded("a(bc)/(())d");
        x.moveTo(3);
        due("15 the item before", x.grow(), 1);
        due("15 then", all(x), "a(bc)/(())d caret 3 selected 1 from 2");
        due("15 the row", x.grow(), 2);
        due("15 then", x.about(2), 4);
        due("15 the structure", x.grow(), 1);
        due("15 then", all(x), "a(bc)/(())d caret 8 selected 1 from 1");
        due("15 the main row", x.grow(), 3);
        refused("15 no structure", STATE, x::grow);
        due("15 nothing was changed", all(x), "a(bc)/(())d caret 9 selected 3 from 0");
        x.moveTo(2);
        due("15 all at the beginning of a row", x.grow(), 2);
        due("15 then", all(x), "a(bc)/(())d caret 4 selected 2 from 2");
        x.moveTo(6);
        due("15 an empty row", x.grow(), 1);
        due("15 then", all(x), "a(bc)/(())d caret 7 selected 1 from 5");
        due("15 it is the whole row", x.grow(), 1);
        due("15 the fraction", all(x), "a(bc)/(())d caret 8 selected 1 from 1");
        FormulaEditor y = new FormulaEditor();
        refused("15 the empty main row", STATE, y::grow);
    }

    private static void promise16Copy() {
        FormulaEditor x = loaded("ab/cd");
        refused("16 no selection", STATE, x::copy);
        x.moveTo(6);
        x.grow();
        due("16 copy", x.copy(), 3);
        due("16 nothing else", all(x), "ab/cd caret 6 selected 1 from 1");
        x.moveTo(1);
        x.extend(false);
        due("16 in place of what is there", x.copy(), 1);
        due("16 the clipboard", x.about(5), 1);
        x.type('z');
        due("16 it is a copy", x.paste(), 5 + 1);
        due("16 pasted", linear(x), "zab/cd");
        refused("16 it is no action", STATE, () -> {
            x.undo();
            x.undo();
            return x.undo();
        });
    }

    private static void promise17Type() {
        FormulaEditor x = new FormulaEditor();
        due("17 type", x.type('a'), 1);
        typeAll(x, "bcdefghijklmnopqstuvwxyz0123456789+-*=,.");
        due("17 all symbols", x.about(0), 41);
        for (int c = -1; c <= 300; c++) {
            int code = c;
            if (c < 0 || c > 127 || "abcdefghijklmnopqstuvwxyz0123456789+-*=,.".indexOf(c) < 0) {
                refused("17 type(" + c + ")", ARGUMENT, () -> x.type(code));
            }
        }
        FormulaEditor y = loaded("abc");
        y.moveTo(1);
        y.extend(true);
        y.extend(true);
        due("17 in place of the selection", y.type('x'), 2);
        due("17 then", all(y), "ax caret 2 selected 0 from 2");
        FormulaEditor z = symbols(60);
        refused("17 61 items", STATE, () -> z.type('a'));
        refused("17 the argument comes first", ARGUMENT, () -> z.type('r'));
        z.grow();
        due("17 in place of one of 60", z.type('b'), 60);
    }

    private static void wrapped(String text, int from, int to, int kind, int caret, String then) {
        FormulaEditor x = loaded(text);
        x.moveTo(from);
        while (x.about(2) < to) {
            x.extend(true);
        }
        due("18 wrap(" + kind + ") in " + text, x.wrap(kind), caret);
        due("18 then", all(x), then + " caret " + caret + " selected 0 from " + caret);
    }

    private static void promise18Wrap() {
        wrapped("ab", 1, 1, 1, 2, "a()/()b");
        wrapped("ab", 1, 1, 2, 2, "a^()b");
        wrapped("ab", 1, 1, 3, 2, "a_()b");
        wrapped("ab", 1, 1, 4, 2, "ar()b");
        wrapped("ab", 1, 1, 5, 2, "a()b");
        wrapped("abc", 1, 2, 1, 4, "ab/()c");
        wrapped("abc", 0, 3, 1, 5, "(abc)/()");
        wrapped("abc", 1, 2, 2, 4, "a^bc");
        wrapped("abc", 1, 3, 5, 5, "a(bc)");
        wrapped("a/b", 0, 5, 4, 7, "r(a/b)");
        FormulaEditor x = new FormulaEditor();
        refused("18 wrap(0)", ARGUMENT, () -> x.wrap(0));
        refused("18 wrap(6)", ARGUMENT, () -> x.wrap(6));
        for (int i = 0; i < 5; i++) {
            due("18 level " + i, x.wrap(5), i + 1);
        }
        refused("18 level 6", STATE, () -> x.wrap(2));
        refused("18 the argument comes first", ARGUMENT, () -> x.wrap(9));
        due("18 a symbol on level 5", x.type('*'), 6);
        x.undo();
        due("18 nothing was changed", all(x), "((((())))) caret 5 selected 0 from 5");
        x.moveTo(0);
        due("18 beside it", x.wrap(3), 1);
        x.moveTo(x.about(1) - 1);
        x.grow();
        refused("18 level 6 by the selection", STATE, () -> x.wrap(5));
        FormulaEditor y = symbols(60);
        refused("18 61 items", STATE, () -> y.wrap(1));
        y.grow();
        refused("18 61 items with a selection", STATE, () -> y.wrap(1));
    }

    private static void deleted(String text, int caret, int less, String then) {
        FormulaEditor x = loaded(text);
        x.moveTo(caret);
        due("19 backspace in " + text, x.backspace(), less);
        due("19 then", all(x), then);
        due("19 it is an action", x.undo(), 0);
        due("19 undone", all(x), text + " caret " + caret + " selected 0 from " + caret);
    }

    private static void promise19Backspace() {
        deleted("ab", 2, 1, "a caret 1 selected 0 from 1");
        deleted("a()", 3, 1, "a caret 1 selected 0 from 1");
        deleted("a()/()b", 4, 1, "ab caret 1 selected 0 from 1");
        deleted("a/()", 4, 0, "a/() caret 3 selected 0 from 3");
        deleted("()/b", 4, 0, "()/b caret 3 selected 0 from 3");
        deleted("r(ab)", 4, 0, "r(ab) caret 3 selected 0 from 3");
        deleted("x^(())", 5, 0, "x^(()) caret 4 selected 0 from 4");
        deleted("x(ab)y", 2, 1, "xaby caret 1 selected 0 from 1");
        deleted("x(ab)/cy", 2, 1, "xabcy caret 1 selected 0 from 1");
        deleted("x(ab)/(cd)y", 5, 1, "xabcdy caret 3 selected 0 from 3");
        deleted("x()/()y", 3, 1, "xy caret 1 selected 0 from 1");
        deleted("x_()", 2, 1, "x caret 1 selected 0 from 1");
        deleted("r((a)b)", 1, 1, "(a)b caret 0 selected 0 from 0");
        FormulaEditor x = loaded("abc/d");
        refused("19 at the beginning", STATE, x::backspace);
        x.moveTo(7);
        x.extend(false);
        x.extend(false);
        due("19 the selection", x.backspace(), 4);
        due("19 then", all(x), "a caret 1 selected 0 from 1");
        x.undo();
        due("19 undone", all(x), "abc/d caret 7 selected 2 from 1");
        x.moveTo(1);
        x.extend(false);
        due("19 a selection at the beginning", x.backspace(), 1);
        due("19 then", all(x), "bc/d caret 0 selected 0 from 0");
    }

    private static void promise20Paste() {
        FormulaEditor x = loaded("a/bc");
        refused("20 the clipboard is empty", STATE, x::paste);
        x.moveTo(5);
        x.grow();
        x.copy();
        x.moveTo(6);
        due("20 paste", x.paste(), 7);
        due("20 then", all(x), "a/bca/b caret 11 selected 0 from 11");
        x.moveTo(5);
        x.extend(true);
        due("20 in place of the selection", x.paste(), 9);
        due("20 then", all(x), "a/ba/ba/b caret 10 selected 0 from 10");
        x.moveTo(1);
        due("20 in a slot", x.paste(), 12);
        due("20 then", all(x), "(a/ba)/ba/ba/b caret 6 selected 0 from 6");
        pasteTooLarge();
    }

    private static void pasteTooLarge() {
        FormulaEditor x = loaded("(((a)))" + "b".repeat(20));
        x.moveTo(7);
        x.grow();
        x.copy();
        x.moveTo(1);
        due("20 level 4", x.paste(), 28);
        x.undo();
        x.moveTo(2);
        due("20 level 5", x.paste(), 28);
        x.undo();
        x.moveTo(3);
        refused("20 level 6", STATE, x::paste);
        x.extend(true);
        refused("20 level 6 in place of the selection", STATE, x::paste);
        due("20 nothing was changed", x.selection(0), 1);
        x.moveTo(27);
        x.extend(false);
        x.grow();
        due("20 all is copied", x.copy(), 24);
        x.moveTo(27);
        due("20 48 items", x.paste(), 48);
        refused("20 72 items", STATE, x::paste);
        for (int i = 0; i < 12; i++) {
            x.extend(false);
        }
        due("20 60 items in place of 12", x.paste(), 60);
    }

    private static void promise21Replace() {
        FormulaEditor x = loaded("a/(ab^a)r(a)");
        x.moveTo(8);
        x.extend(false);
        due("21 replace", x.replace('a', '+'), 4);
        due("21 then", linear(x), "(+)/(+b^(+))r(+)");
        due("21 the selection stays", x.selection(0), 1);
        due("21 the caret stays", x.about(2), 8);
        due("21 none", x.replace('a', 'b'), 0);
        due("21 the first and the last", loaded("*a*").replace('*', '.'), 2);
        due("21 by itself", x.replace('b', 'b'), 1);
        due("21 all are actions", x.undo(), 2);
        refused("21 c", ARGUMENT, () -> x.replace('r', 'a'));
        refused("21 d", ARGUMENT, () -> x.replace('a', '('));
        refused("21 a kind", ARGUMENT, () -> x.replace(1, 2));
        FormulaEditor y = loaded("a");
        y.extend(true);
        y.copy();
        y.replace('a', 'b');
        y.paste();
        due("21 the clipboard stays", linear(y), "a");
    }

    private static void promise22Undo() {
        FormulaEditor x = loaded("ab");
        x.moveTo(2);
        x.grow();
        x.wrap(4);
        x.moveTo(0);
        due("22 undo", x.undo(), 0);
        due("22 then", all(x), "ab caret 2 selected 1 from 1");
        refused("22 none is remembered", STATE, x::undo);
        for (int i = 0; i < 20; i++) {
            x.type('c');
        }
        for (int i = 13; i >= 0; i--) {
            due("22 14 are remembered", x.undo(), i);
        }
        due("22 the oldest are forgotten", linear(x), "acccccc");
        refused("22 none is remembered then", STATE, x::undo);
        x.type('d');
        x.save(0);
        refused("22 a call that throws is no action", STATE, () -> x.extend(true));
        refused("22 nor is this", ARGUMENT, () -> x.type('r'));
        due("22 moving is no action", x.moveTo(0), 8);
        x.clearText();
        due("22 undo once", x.undo(), 0);
        due("22 the save slots are not remembered", x.restore(0), 8);
    }

    private static void drawnAs(String text, int above, String picture) {
        FormulaEditor x = loaded(text);
        due("23 above the base line in " + text, x.drawing(2), above);
        due("24 drawing of " + text, drawn(x), picture);
    }

    private static void promise23Drawing() {
        FormulaEditor x = loaded("a+(b-c)/r(2x)^3");
        due("23 width", x.drawing(0), 6);
        due("23 lines", x.drawing(1), 4);
        due("23 above", x.drawing(2), 1);
        refused("23 drawing(-1)", ARGUMENT, () -> x.drawing(-1));
        refused("23 drawing(3)", ARGUMENT, () -> x.drawing(3));
        due("23 the widest", widest().drawing(0), 180);
        due("23 the tallest", tallest().drawing(1), 63);
    }

    private static void promise24Drawn() {
        drawnAs("", 0, "?|");
        drawnAs("a+b", 0, "a+b|");
        drawnAs("*(*)*", 0, "*(*)*|");
        drawnAs("a/b", 1, "a|-|b|");
        drawnAs("(abcd)/e", 1, "abcd|----| e  |");
        drawnAs("a/(bcd)+", 1, " a  |---+|bcd |");
        drawnAs("()/(abc)", 1, " ? |---|abc|");
        drawnAs("a^b", 1, " b|a |");
        drawnAs("a_b", 0, "a | b|");
        drawnAs("a^b_c", 1, " b |a  |  c|");
        drawnAs("a^(b_c)", 2, " b |  c|a  |");
        drawnAs("r(a)", 1, " _|Va|");
        drawnAs("r()", 1, " _|V?|");
        drawnAs("r(a/b)", 2, " _|Va|V-|Vb|");
        drawnAs("r(a^b)c", 2, " __ |V b |Va c|");
        drawnAs("(a)", 0, "(a)|");
        drawnAs("()", 0, "(?)|");
        drawnAs("(a/b)c", 1, "(a) |(-)c|(b) |");
        drawnAs("a^()", 1, " ?|a |");
        drawnAs("(a_b)/(c^d)", 2, "a | b|--| d|c |");
        drawnAs("x^(y^z)_(a/b)*r(r(1/2)+3)", 3,
            "      ____|  z  V _  | y   VV1  |x   *VV-+3|   a VV2  |   -      |   b      |");
        FormulaEditor x = loaded("a/b");
        refused("24 drawn(-1, 0)", INDEX, () -> x.drawn(-1, 0));
        refused("24 drawn(1, 0)", INDEX, () -> x.drawn(1, 0));
        refused("24 drawn(0, -1)", INDEX, () -> x.drawn(0, -1));
        refused("24 drawn(0, 3)", INDEX, () -> x.drawn(0, 3));
    }

    private static void promise25RunScript() {
        FormulaEditor x = loaded("ab");
        x.moveTo(2);
        due("25 types", x.runScript(2, 10977003L), NONE);
        due("25 wraps", x.runScript(4, 2001_7003_8003_1097L), NONE);
        due("25 moves", x.runScript(4, 4001_8001_3099_8002L), NONE);
        due("25 deletes", x.runScript(3, 5000_5000_7000L), NONE);
        due("25 deletes too much", x.runScript(3, 5000_5000_5000L), 2);
        due("25 grows", x.runScript(4, 6000_6000_2002_9002L), NONE);
        due("25 grows too much", x.runScript(4, 6000_6000_6000_7002L), 2);
        due("25 is so wide", x.runScript(1, 9002L), NONE);
        due("25 a slot is not so wide", loaded("(a)").runScript(1, 9003L), NONE);
        due("25 is not so wide", x.runScript(1, 9003L), 0);
        due("25 there are not so many items", x.runScript(1, 7003L), 0);
        due("25 the caret is elsewhere", x.runScript(2, 8002_8001L), 1);
        due("25 no symbol", x.runScript(1, 1114L), 0);
        due("25 no symbol either", x.runScript(1, 1999L), 0);
        due("25 no kind", x.runScript(2, 2005_2006L), 1);
        due("25 kind 0", x.runScript(1, 2000L), 0);
        due("25 nothing", x.runScript(4, 0L), 0);
        due("25 zeros in front", x.runScript(2, 7002L), 0);
        due("25 the last digits", x.runScript(4, 7002_7002_7002_7003L), 3);
        long[] others = {2011, 2101, 2100, 3100, 4100, 5001, 5100, 6010, 6100, 7102, 8102, 9102, 999};
        for (long group : others) {
            due("25 any other group, " + group, x.runScript(1, group), 0);
        }
        due("25 all stays", all(x), "ab caret 2 selected 0 from 2");
        refused("25 it is no action", STATE, x::undo);
        refused("25 n 0", ARGUMENT, () -> x.runScript(0, 1));
        refused("25 n 5", ARGUMENT, () -> x.runScript(5, 1));
        refused("25 negative", ARGUMENT, () -> x.runScript(1, -1));
        refused("25 5 digits", ARGUMENT, () -> x.runScript(1, 10000L));
        refused("25 17 digits", ARGUMENT, () -> x.runScript(4, 10000_0000_0000_0000L));
        refused("25 the greatest", ARGUMENT, () -> x.runScript(4, Long.MAX_VALUE));
        due("25 16 digits", x.runScript(4, 9999_9999_9999_9999L), 0);
        x.grow();
        due("25 the selection", x.runScript(2, 1120_7002L), NONE);
        due("25 moving ends it", x.runScript(3, 3000_1120_7003L), NONE);
        due("25 the selection stays", x.selection(0), 1);
        FormulaEditor y = symbols(60);
        due("25 too large", y.runScript(2, 7060_1097L), 1);
        due("25 too large to wrap", y.runScript(1, 2001L), 0);
    }

    private static int answerOf(FormulaEditor x, long seed, int m) {
        long r = seed;
        for (int i = 0; i < m; i++) {
            r = r * 6364136223846793005L + 1442695040888963407L;
            playRound(x, (int) (r >>> 33));
        }
        return 1000 * x.about(0) + x.linearLength();
    }

    private static void playRound(FormulaEditor x, int r) {
        int q = r / 8 % 64;
        try {
            switch (r % 8) {
                case 0: case 1: case 2: x.type(97 + q % 17); break;
                case 3: case 4: x.wrap(1 + q % 5); break;
                case 5: x.moveBy(q - 32); break;
                case 6: x.backspace(); break;
                default: x.grow(); break;
            }
        } catch (IllegalStateException e) {
            return;
        }
    }

    private static void promise26Simulate() {
        long[] seeds = {0, 1, -1, Long.MAX_VALUE, Long.MIN_VALUE, 4711, 20261119L, -123456789012345L};
        for (long seed : seeds) {
            for (int m : new int[] {1, 2, 7, 33, 60}) {
                FormulaEditor x = loaded("a/bc");
                x.moveTo(6);
                x.grow();
                int got = x.simulate(seed, m);
                due("26 all stays", all(x), "a/bc caret 6 selected 1 from 5");
                refused("26 it is no action", STATE, x::undo);
                due("26 simulate(" + seed + ", " + m + ")", got, answerOf(x, seed, m));
            }
        }
        FormulaEditor x = new FormulaEditor();
        refused("26 m 0", ARGUMENT, () -> x.simulate(1, 0));
        refused("26 m 61", ARGUMENT, () -> x.simulate(1, 61));
        // x = 1442695040888963407, r = 167953077: r % 8 is 5, so the caret moves in an empty formula
        due("26 one round", x.simulate(0, 1), 0);
    }

    private static void promise27And28SaveSlots() {
        FormulaEditor x = loaded("a/b");
        x.moveTo(5);
        x.grow();
        due("27 save", x.save(0), 3);
        x.type('c');
        due("27 save in 1", x.save(1), 1);
        refused("27 slot -1", INDEX, () -> x.save(-1));
        refused("27 slot 2", INDEX, () -> x.save(2));
        refused("28 slot -1", INDEX, () -> x.restore(-1));
        refused("28 slot 2", INDEX, () -> x.restore(2));
        x.type('d');
        due("28 restore", x.restore(0), 3);
        due("28 then", all(x), "a/b caret 5 selected 1 from 0");
        refused("28 nothing is remembered", STATE, x::undo);
        x.replace('a', 'z');
        due("28 the slot keeps it", x.restore(0), 3);
        due("28 as it was", linear(x), "a/b");
        due("28 the other one", x.restore(1), 1);
        due("28 is another", all(x), "c caret 1 selected 0 from 1");
        x.type('e');
        x.save(1);
        due("27 saving is no action", x.undo(), 0);
        due("27 in place of what is there", x.restore(1), 2);
        FormulaEditor y = new FormulaEditor();
        due("27 save nothing", y.save(1), 0);
        refused("28 the empty slot", STATE, () -> y.restore(0));
        y.type('a');
        due("28 restore nothing", y.restore(1), 0);
    }
}
