/**
 * What the project's tests share: making editors, telling all of an editor in a line, comparing
 * answers. A test extends it, because a class without a package cannot be imported.
 */
abstract class Kit {
    static final int NONE = FormulaEditor.NONE;
    static final String ARGUMENT = "IllegalArgumentException";
    static final String STATE = "IllegalStateException";
    static final String INDEX = "IndexOutOfBoundsException";
    static final String SYMBOLS = "abcdefghijklmnopqstuvwxyz0123456789+-*=,.";
    /** Arguments that are far from all that is allowed. */
    static final int[] FAR = {Integer.MIN_VALUE, Integer.MIN_VALUE + 1, -1000, 1000, Integer.MAX_VALUE};

    private static final int LOOKS = 6;

    private static String told = "";
    private static int wrong = 0;

    interface Call {
        int made();
    }

    interface CallOn {
        int on(FormulaEditor x);
    }

    interface Maker {
        FormulaEditor made();
    }

    // ---- comparing

    /** Names the sentence of the document that the next answers are about. */
    static void sentence(String where, String words) {
        told = where + ": \"" + words + "\" ";
    }

    static void due(String what, Object got, Object want) {
        if (!got.equals(want)) {
            wrong++;
            System.out.println(told + what + ": answered " + got + ", due is " + want);
        }
    }

    /** The answer of a call, or the simple name of the exception that it throws. */
    static Object answer(Call call) {
        try {
            return call.made();
        } catch (RuntimeException e) {
            return e.getClass().getSimpleName();
        }
    }

    static void refused(String what, String want, Call call) {
        due(what, answer(call), want);
    }

    /** The call throws this, and the editor is then in all as one on which it was not called. */
    static void refusedWithoutChange(String what, String want, Maker maker, CallOn call) {
        for (int look = 0; look < LOOKS; look++) {
            FormulaEditor x = maker.made();
            due(what, answer(() -> call.on(x)), want);
            due(what + ", look " + look + " at what it left", looked(look, x), looked(look, maker.made()));
        }
    }

    static void finish(String allRight) {
        System.out.println(wrong == 0 ? allRight : wrong + " answers are not as due");
        if (wrong != 0) {
            System.exit(1);
        }
    }

    // ---- telling

    static String linear(FormulaEditor x) {
        StringBuilder all = new StringBuilder();
        int length = x.linearLength();
        for (int i = 0; i < length; i++) {
            all.append((char) x.linearAt(i));
        }
        return all.toString();
    }

    static String drawn(FormulaEditor x) {
        StringBuilder all = new StringBuilder();
        int width = x.drawing(0);
        int lines = x.drawing(1);
        for (int y = 0; y < lines; y++) {
            for (int i = 0; i < width; i++) {
                all.append((char) x.drawn(i, y));
            }
            all.append('|');
        }
        return all.toString();
    }

    /** The formula, the caret's place and the selection in one line. */
    static String all(FormulaEditor x) {
        return linear(x) + " caret " + x.about(2) + " selected " + x.selection(0) + " from " + x.selection(2);
    }

    /** One part of what an editor holds, some of which is seen only by calls that change it. */
    private static String looked(int look, FormulaEditor x) {
        switch (look) {
            case 0:
                return all(x) + " clipboard " + x.about(5) + " error " + x.errorPosition();
            case 1:
                return undone(x);
            case 2:
            case 3:
                return answer(() -> x.restore(look - 2)) + " items: " + all(x);
            case 4:
                x.moveTo(0);
                return answer(x::paste) + " items: " + all(x);
            default:
                return answer(x::load) + " items: " + all(x) + ", text of " + x.clearText();
        }
    }

    private static String undone(FormulaEditor x) {
        StringBuilder all = new StringBuilder();
        for (int i = 0; i < 15; i++) {
            all.append(answer(x::undo)).append(" left: ").append(all(x)).append("; ");
        }
        return all.toString();
    }

    // ---- making

    static void put(FormulaEditor x, String text) {
        x.clearText();
        for (int i = 0; i < text.length(); i++) {
            x.append(text.charAt(i));
        }
    }

    static FormulaEditor withText(String text) {
        FormulaEditor x = new FormulaEditor();
        put(x, text);
        return x;
    }

    static FormulaEditor loaded(String text) {
        FormulaEditor x = withText(text);
        x.load();
        return x;
    }

    /** The formula of a text, with the caret at a place. */
    static FormulaEditor at(String text, int place) {
        FormulaEditor x = loaded(text);
        x.moveTo(place);
        return x;
    }

    /** The formula of a text, with the items between two places of a row selected. */
    static FormulaEditor selecting(String text, int from, int to) {
        FormulaEditor x = at(text, from);
        while (x.about(2) < to) {
            x.extend(true);
        }
        return x;
    }

    /** As selecting, with these items in the clipboard too. */
    static FormulaEditor copying(String text, int from, int to) {
        FormulaEditor x = selecting(text, from, to);
        x.copy();
        return x;
    }

    static void typeAll(FormulaEditor x, String symbols) {
        for (int i = 0; i < symbols.length(); i++) {
            x.type(symbols.charAt(i));
        }
    }

    /** A formula of so many symbols, with the caret behind the last one. */
    static FormulaEditor symbols(int count) {
        FormulaEditor x = new FormulaEditor();
        typeAll(x, "a".repeat(count));
        return x;
    }

    /** So many fractions with empty slots, one behind the other, with the caret behind the last one. */
    static FormulaEditor fractions(int count) {
        FormulaEditor x = new FormulaEditor();
        for (int i = 0; i < count; i++) {
            x.wrap(1);
            x.moveBy(2);
        }
        return x;
    }

    /** The widest drawing that a formula can have: 60 empty parentheses. */
    static FormulaEditor widest() {
        FormulaEditor x = new FormulaEditor();
        for (int i = 0; i < 60; i++) {
            x.wrap(5);
            x.moveBy(1);
        }
        return x;
    }

    /** The tallest drawing: 31 fractions, five levels deep. */
    static FormulaEditor tallest() {
        FormulaEditor x = new FormulaEditor();
        tower(x, 5);
        return x;
    }

    private static void tower(FormulaEditor x, int levels) {
        if (levels > 0) {
            int place = x.wrap(1);
            tower(x, levels - 1);
            x.moveTo(place);
            // over the items of the numerator and into the denominator
            while (x.place(x.about(2), 5) != NONE) {
                x.extend(true);
            }
            x.moveBy(1);
            tower(x, levels - 1);
        }
    }

    /** An editor with a text, a clipboard, actions to undo, both save slots and a selection. */
    static FormulaEditor furnished() {
        FormulaEditor x = loaded("a+b/c");
        x.save(0);
        x.moveTo(2);
        x.extend(false);
        x.copy();
        x.type('x');
        x.save(1);
        x.wrap(2);
        x.type('y');
        x.extend(false);
        put(x, "(d)e");
        return x;
    }
}
