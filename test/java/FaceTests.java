import java.lang.reflect.Constructor;
import java.lang.reflect.Field;
import java.lang.reflect.Method;
import java.lang.reflect.Modifier;

/** The public face: every member as the document writes it, and no other one that can be reached. */
public final class FaceTests extends Kit {
    private static final String A = ARGUMENT;
    private static final String S = STATE;
    private static final String I = INDEX;

    /** Each method as its name and parameters, then the exceptions that it declares, in their order. */
    private static final String[][] FACE = {
        {"append(int)", A, S}, {"clearText()"}, {"errorPosition()"}, {"load()", S},
        {"about(int)", A}, {"place(int,int)", I, A}, {"selection(int)", A}, {"linearLength()"}, {"linearAt(int)", I},
        {"moveTo(int)", I}, {"moveBy(int)", A}, {"moveVertically(boolean)"}, {"extend(boolean)", S}, {"grow()", S}, {"copy()", S},
        {"type(int)", A, S}, {"wrap(int)", A, S}, {"backspace()", S}, {"paste()", S}, {"replace(int,int)", A}, {"undo()", S},
        {"drawing(int)", A}, {"drawn(int,int)", I},
        {"runScript(int,long)", A}, {"simulate(long,int)", A},
        {"save(int)", I}, {"restore(int)", I, S}};

    public static void main(String[] args) {
        theClass();
        theConstant();
        theConstructor();
        theMethods();
        theClassesInside();
        finish("the face is the document's");
    }

    private static void theClass() {
        sentence("The public face", "public final class FormulaEditor");
        int modifiers = FormulaEditor.class.getModifiers();
        due("public", Modifier.isPublic(modifiers), true);
        due("final", Modifier.isFinal(modifiers), true);
        due("what it extends", FormulaEditor.class.getSuperclass(), Object.class);
        due("what it implements", FormulaEditor.class.getInterfaces().length, 0);
        due("its package", FormulaEditor.class.getPackageName(), "");
    }

    private static void theConstant() {
        sentence("The public face", "public static final int NONE = -9;");
        for (Field field : FormulaEditor.class.getDeclaredFields()) {
            if (!Modifier.isPrivate(field.getModifiers()) && !field.isSynthetic()) {
                due("a field that is not private", field.getName(), "NONE");
                due("how it is declared", Modifier.toString(field.getModifiers()) + " " + field.getType(), "public static final int");
            }
        }
        // a constant of the compiler's, or this would not compile
        switch (-9) {
            case FormulaEditor.NONE:
                break;
            default:
                due("NONE", FormulaEditor.NONE, -9);
        }
    }

    private static void theConstructor() {
        sentence("The public face", "public FormulaEditor();");
        Constructor<?>[] constructors = FormulaEditor.class.getDeclaredConstructors();
        due("the number of constructors", constructors.length, 1);
        due("it is public", Modifier.isPublic(constructors[0].getModifiers()), true);
        due("its parameters", constructors[0].getParameterCount(), 0);
        due("what it declares to throw", constructors[0].getExceptionTypes().length, 0);
    }

    private static void theMethods() {
        sentence("The public face", "public final class FormulaEditor");
        int found = 0;
        for (Method method : FormulaEditor.class.getDeclaredMethods()) {
            if (Modifier.isPrivate(method.getModifiers()) || method.isSynthetic()) {
                for (String[] promised : FACE) {
                    due("a hidden method with a public name", promised[0].startsWith(method.getName() + "("), false);
                }
            } else {
                found++;
                due("how " + method.getName() + " is declared",
                    Modifier.toString(method.getModifiers()) + " " + method.getReturnType(), "public int");
                due("the document has", isPromised(told(method)), true);
            }
        }
        due("the number of methods", found, FACE.length);
    }

    private static boolean isPromised(String method) {
        for (String[] promised : FACE) {
            if (String.join(" ", promised).equals(method)) {
                return true;
            }
        }
        System.out.println("not in the document: " + method);
        return false;
    }

    private static String told(Method method) {
        StringBuilder all = new StringBuilder(method.getName());
        String before = "(";
        for (Class<?> type : method.getParameterTypes()) {
            all.append(before).append(type.getSimpleName());
            before = ",";
        }
        all.append(method.getParameterCount() == 0 ? "()" : ")");
        for (Class<?> type : method.getExceptionTypes()) {
            all.append(' ').append(type.getSimpleName());
        }
        return all.toString();
    }

    private static void theClassesInside() {
        sentence("LANGUAGE.md", "classes inside it, which are private or package-visible and static");
        for (Class<?> inside : FormulaEditor.class.getDeclaredClasses()) {
            int modifiers = inside.getModifiers();
            due(inside.getSimpleName() + " is hidden", Modifier.isPublic(modifiers) || Modifier.isProtected(modifiers), false);
            due(inside.getSimpleName() + " is static", Modifier.isStatic(modifiers), true);
        }
    }
}
