import java.lang.reflect.Member;
import java.lang.reflect.Method;
import java.lang.reflect.Modifier;
import java.util.Arrays;
import java.util.List;
import java.util.TreeSet;

/** Promises 1 to 4: a new object, status, top, bottom; and the face as a whole. */
public final class FaceTest {
    private static final List<String> FACE = List.of(
            "status()int", "top()long", "bottom()long", "tray(int,int,int)boolean", "write(int,int,long)boolean",
            "read(int,int)long", "pour(int,int,int,int,int)boolean", "feed(int,int,int,int,int)int", "house(int)int",
            "times(int)int", "fault(int)int", "told(int)int", "stone(int,int)int", "debt(int,int)int", "cash(int)int",
            "net(int)int", "shorts()int", "year(int)int", "pay(int)int", "snip(int,int)int", "mend(int)int",
            "lend(int,int,int,int,boolean,int)int", "give(int,int)int", "rate(int,int)int", "rule(int)boolean",
            "owedIn(int,int)int", "standsIn(int)int", "fallsIn(int)int", "bare(int)int", "most()int", "mostSet()int",
            "fewest(int)int", "fewestSet(int)int", "under(int)int", "chain(int)int", "chainAt(int,int)int",
            "sums(int)int", "sumAt(int,int)int", "oddsThat(int,int)boolean", "fits(int,int,int)int",
            "fitsAt(int,int,int,int)int", "ask(int,int,int)int", "game(int)int", "moveOf(int)int",
            "luck(int,int)boolean", "share(int)boolean", "copyOwed(int)int", "live(int)int", "lived(int)int",
            "mean(int,int)boolean", "mark()int", "undo()int");

    public static void main(String[] args) {
        face();
        newObject();
        latestStatus();
        fractions();
        Check.end();
    }

    private static void face() {
        TreeSet<String> seen = new TreeSet<>();
        for (Method m : IvyHouse.class.getDeclaredMethods()) {
            if (!Modifier.isPrivate(m.getModifiers())) {
                String row = Arrays.toString(Arrays.stream(m.getParameterTypes()).map(Class::getName).toArray());
                row = row.substring(1, row.length() - 1).replace(" ", "");
                seen.add(m.getName() + "(" + row + ")" + m.getReturnType().getName());
            }
        }
        Check.due("the face " + seen, seen.equals(new TreeSet<>(FACE)), true);
        Check.due("open fields", Arrays.stream(IvyHouse.class.getDeclaredFields()).filter(FaceTest::isOpen).count(), 1);
        Check.due("constructors", IvyHouse.class.getConstructors().length, 1);
        Check.due("final", Modifier.isFinal(IvyHouse.class.getModifiers()), true);
        Check.due("NONE", IvyHouse.NONE, -1);
    }

    private static boolean isOpen(Member m) {
        return !Modifier.isPrivate(m.getModifiers());
    }

    private static void newObject() {
        IvyHouse x = new IvyHouse();
        Check.due("status()", x.status(), 0);
        Check.due("top()", x.top(), 0);
        Check.due("bottom()", x.bottom(), 1);
        Check.due("fault(0)", x.fault(0), -1);
        Check.due("fault(1)", x.fault(1), -1);
        long[] told = {0, 0, 0, 4, 0, 0, 0, 0, 0, 0};
        for (int what = 0; what < 10; what++) {
            Check.fine(x, "told(" + what + ")", x.told(what), told[what]);
        }
        for (int tray = 0; tray < 4; tray++) {
            Check.refused(x, "read(" + tray + ", 0)", x.read(tray, 0), 2);
        }
        Check.refused(x, "house(1)", x.house(1), 1);
        Check.refused(x, "live(0)", x.live(0), 6);
        Check.refused(x, "mean(0, 1)", x.mean(0, 1), 6);
        Check.refused(x, "undo()", x.undo(), 6);
        Check.refused(x, "lived(0)", x.lived(0), 6);
        Check.fine(x, "house(0)", x.house(0), 0);
        Check.fraction(x, "luck(1, 1)", x.luck(1, 1), 1, 4);
    }

    private static void latestStatus() {
        IvyHouse x = new IvyHouse();
        x.told(10);
        Check.due("status()", x.status(), 1);
        x.status();
        x.top();
        x.bottom();
        x.feed(0, 0, 0, 0, 0);
        x.fault(0);
        x.fault(7);
        Check.due("status() behind calls that have none", x.status(), 1);
        x.told(0);
        Check.due("status()", x.status(), 0);
    }

    private static void fractions() {
        IvyHouse x = new IvyHouse();
        x.rule(6);
        Check.fraction(x, "luck(1, 1)", x.luck(1, 1), 3, 8);
        Check.refused(x, "luck(13, 1)", x.luck(13, 1), 1);
        Check.due("top() stays", x.top(), 3);
        Check.due("bottom() stays", x.bottom(), 8);
        Check.fraction(x, "luck(1, 2)", x.luck(1, 2), 0, 1);
    }
}
