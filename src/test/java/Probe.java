import java.util.ArrayList;
import java.util.List;

/**
 * All that an object tells when it is asked for everything: objects that hold the same give the same row. The object
 * is used up by it: its tape is read, its TIMES are lived, its MARKS are taken back. Parts may be left out by name.
 */
final class Probe {
    private final IvyHouse x;
    private final List<String> row = new ArrayList<>();

    private Probe(IvyHouse x) {
        this.x = x;
    }

    static List<String> of(IvyHouse x, List<String> leftOut) {
        Probe p = new Probe(x);
        if (!leftOut.contains("fraction")) {
            p.put("top()", x.top());
            p.put("bottom()", x.bottom());
        }
        if (!leftOut.contains("fault")) {
            p.put("fault(0)", x.fault(0));
            p.put("fault(1)", x.fault(1));
        }
        if (!leftOut.contains("lived")) {
            p.lived("");
        }
        if (!leftOut.contains("trays")) {
            p.trays();
        }
        if (!leftOut.contains("house")) {
            p.house("");
            p.times("");
        }
        if (!leftOut.contains("tape")) {
            p.tape();
        }
        p.marks();
        return p.row;
    }

    private void put(String what, long answer) {
        row.add(what + " is " + answer);
    }

    private void putWithStatus(String what, long answer) {
        row.add(what + " is " + answer + " with STATUS " + x.status());
    }

    private void lived(String where) {
        for (int what = 0; what < 5; what++) {
            putWithStatus(where + "lived(" + what + ")", x.lived(what));
        }
    }

    private void trays() {
        for (int tray = 0; tray < 4; tray++) {
            int place = 0;
            do {
                putWithStatus("read(" + tray + ", " + place + ")", x.read(tray, place));
                place++;
            } while (x.status() == 0);
            for (int other = 0; other < tray; other++) {
                putWithStatus("pour of none from " + other + " to " + tray, x.pour(other, 0, tray, 0, 0) ? 1 : 0);
            }
            if (x.write(tray, 0, 0x0123456789abcdefL)) {
                put("the sort of " + tray, x.read(tray, 0));
            }
        }
    }

    private void house(String where) {
        for (int what = 0; what < 10; what++) {
            put(where + "told(" + what + ")", x.told(what));
        }
        for (int s = x.told(0) - 1; s >= 0; s--) {
            for (int what = 0; what < 5; what++) {
                put(where + "stone(" + s + ", " + what + ")", x.stone(s, what));
            }
        }
        for (int d = x.told(2) - 1; d >= 0; d--) {
            for (int what = 0; what < 8; what++) {
                put(where + "debt(" + d + ", " + what + ")", x.debt(d, what));
            }
        }
        for (int p = x.told(1) - 1; p >= 0; p--) {
            put(where + "cash(" + p + ")", x.cash(p));
        }
    }

    private void times(String where) {
        putWithStatus(where + "live(7)", x.live(7));
        if (x.status() == 0) {
            lived(where + "behind live(7) ");
            put(where + "all OWED behind live(7)", x.told(8));
            put(where + "all CASH behind live(7)", x.told(9));
        }
    }

    /** What is on it is told by the HOUSE that it makes, or its FAULT. */
    private void tape() {
        int many = x.feed(0x20202020, 0x20202020, 0x20202020, 0x20202020, 0x20202020);
        put("feed", many);
        int length = many < 0 ? 900 : many;
        putWithStatus("house(" + length + ")", x.house(length));
        put("fault(0) of the tape", x.fault(0));
        put("fault(1) of the tape", x.fault(1));
        for (int what = 0; what < 10; what++) {
            put("told(" + what + ") of the tape", x.told(what));
        }
    }

    private void marks() {
        int left;
        do {
            left = x.undo();
            putWithStatus("undo()", left);
            if (left >= 0) {
                String where = "with " + left + " MARKS left, ";
                house(where);
                times(where);
            }
        } while (left >= 0);
    }
}
