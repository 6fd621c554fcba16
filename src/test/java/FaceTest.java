import java.lang.reflect.Constructor;
import java.lang.reflect.Field;
import java.lang.reflect.Method;
import java.lang.reflect.Modifier;
import java.util.Arrays;
import java.util.Set;
import java.util.TreeSet;

/** The public face, and promise 1. */
public final class FaceTest {
    private static final String[] FACE = {
        "append(int)", "clearText()", "errorPosition()", "load()", "about(int)", "row(int,int)", "amount(int,int)",
        "span(int,int)", "note(int)", "page(int,int)", "brought(int,int)", "carried(int,int)", "richest(int)",
        "addRow(int,int)", "setAmount(int,int,int)", "keep(int,boolean)", "removeRow(int)",
        "addSpan(int,int,boolean)", "removeSpan(int)", "setHeight(int,int)", "undo()", "heightFor(int)", "evenest()",
        "evenCut(int)", "emptyFrom(int)", "runScript(int,long)", "simulate(long,int)", "save(int)", "restore(int)"};

    public static void main(String[] args) {
        Check check = new Check("FaceTest");
        face(check);
        newObject(check);
        check.finish();
    }

    private static void face(Check check) {
        Class<?> c = TablePager.class;
        check.same("public final", c.getModifiers(), Modifier.PUBLIC | Modifier.FINAL);
        Set<String> open = new TreeSet<>();
        for (Method m : c.getDeclaredMethods()) {
            if (!Modifier.isPrivate(m.getModifiers()) && !m.isSynthetic()) {
                String name = m.toString().replaceFirst("^public int TablePager\\.", "").replaceFirst(" throws.*", "");
                open.add(name);
            }
        }
        Set<String> due = new TreeSet<>(Arrays.asList(FACE));
        if (!open.equals(due)) {
            check.tell("the methods are " + open + ", due are " + due);
        }
        for (Field f : c.getDeclaredFields()) {
            if (!Modifier.isPrivate(f.getModifiers()) && !f.getName().equals("NONE")) {
                check.tell("the field " + f.getName() + " is not private");
            }
        }
        Constructor<?>[] made = c.getDeclaredConstructors();
        check.same("constructors", made.length, 1);
        check.same("constructor's arguments", made[0].getParameterCount(), 0);
        check.same("NONE", TablePager.NONE, -999999);
    }

    /** Promise 1. */
    private static void newObject(Check check) {
        TablePager x = new TablePager();
        int[] about = {1, 0, 0, 20, 1, 0, 0, 0};
        for (int what = 0; what <= 7; what++) {
            check.same("about(" + what + ")", x.about(what), about[what]);
        }
        for (int n = 1; n <= 6; n++) {
            check.same("note(" + n + ")", x.note(n), 1);
        }
        check.same("clearText() of a new object", x.clearText(), 0);
        check.index("row(0, 0)", () -> x.row(0, 0));
        check.index("span(0, 0)", () -> x.span(0, 0));
        check.index("page(0, 0)", () -> x.page(0, 0));
        check.state("undo()", () -> x.undo());
        check.state("restore(0)", () -> x.restore(0));
        check.state("restore(1)", () -> x.restore(1));
        check.state("load()", () -> x.load());
        check.same("richest(0)", x.richest(0), TablePager.NONE);
        TablePager y = new TablePager();
        y.addRow(1, 1);
        check.same("two objects have nothing in common: about(1)", x.about(1), 0);
    }
}
