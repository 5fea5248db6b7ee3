/** The calls that README.md shows, with the answers that it gives for them. */
public final class ReadmeExamples extends Kit {
    public static void main(String[] args) {
        sentence("README.md", "Use");
        FormulaEditor x = new FormulaEditor();
        due("type", x.type('a'), 1);
        due("grow", x.grow(), 1);
        due("wrap", x.wrap(1), 3);
        due("type", x.type('b'), 3);
        due("linearLength", x.linearLength(), 3);
        due("linearAt", x.linearAt(1), (int) '/');
        due("drawing", x.drawing(1), 3);
        due("drawn", x.drawn(0, 2), (int) 'b');
        due("undo", x.undo(), 2);
        due("moveVertically", x.moveVertically(true), 1);
        for (char c : "r(2)+".toCharArray()) {
            x.append(c);
        }
        due("errorPosition", x.errorPosition(), NONE);
        due("load", x.load(), 3);
        x.append('/');
        due("errorPosition", x.errorPosition(), 5);
        due("load", answer(x::load), STATE);
        theLinearText();
        finish("README.md is right");
    }

    private static void theLinearText() {
        sentence("README.md", "The linear text");
        due("kinds", kinds("a/b"), "1");
        due("kinds", kinds("a^b"), "a2");
        due("kinds", kinds("a_b"), "a3");
        due("kinds", kinds("r(a)"), "4");
        due("kinds", kinds("(a)"), "5");
        due("an operand's parentheses", loaded("(a)/(b)").about(0), 3);
        due("a script's parentheses", loaded("^(a)").about(0), 2);
        due("a blank ends a factor", kinds("a/b ^c"), "12");
        due("without the blank", kinds("a/b^c"), "1");
    }

    /** The items of the main row, a structure by its kind. */
    private static String kinds(String text) {
        FormulaEditor x = loaded(text);
        StringBuilder all = new StringBuilder();
        while (x.place(x.about(2), 5) != NONE) {
            int item = x.place(x.about(2), 5);
            all.append(item <= 5 ? (char) ('0' + item) : (char) item);
            x.extend(true);
        }
        return all.toString();
    }
}
