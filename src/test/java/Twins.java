import java.util.ArrayList;
import java.util.List;

/** Two objects with one past: what must change nothing is called on one of them, and then both must go on alike. */
final class Twins {
    interface Past {
        void on(LanternPeople x);
    }

    interface Call {
        long on(LanternPeople x);
    }

    private Twins() { }

    static LanternPeople after(Past past) {
        LanternPeople x = new LanternPeople();
        past.on(x);
        return x;
    }

    /** The call gives the answer that is due, and changes nothing. */
    static void unchanged(String call, Past past, Call one, long due) {
        LanternPeople touched = after(past);
        Check.due(call, one.on(touched), due);
        alike(call, touched, after(past));
    }

    static void unchanged(String call, Past past, Call one) {
        LanternPeople touched = after(past);
        one.on(touched);
        alike(call, touched, after(past));
    }

    static void alike(String call, LanternPeople touched, LanternPeople untouched) {
        List<String> got = goneOn(touched);
        List<String> want = goneOn(untouched);
        int at = 0;
        while (at < got.size() && at < want.size() && got.get(at).equals(want.get(at))) {
            at++;
        }
        boolean same = at == got.size() && at == want.size();
        String where = same ? "" : ": then " + got.get(at) + ", without it " + want.get(at);
        Check.due("nothing changes by " + call + where, same, true);
    }

    /** All that can be seen, then all undone, each slot gone on from, the tape read: some 340 calls. */
    private static List<String> goneOn(LanternPeople x) {
        List<String> seen = new ArrayList<>();
        add(seen, "place()", x.place());
        lookOver(x, seen);
        for (int i = 0; i <= 40; i++) {
            add(seen, "undo() " + i, x.undo() ? 1 : 0);
            glance(x, seen);
        }
        for (int slot = 0; slot < 3; slot++) {
            add(seen, "restore(" + slot + ")", x.restore(slot) ? 1 : 0);
            glance(x, seen);
            add(seen, "paid", x.count(6));
        }
        add(seen, "read()", x.read());
        add(seen, "place()", x.place());
        for (int what = 0; what < 3; what++) {
            add(seen, "count(" + what + ")", x.count(what));
        }
        return seen;
    }

    private static void add(List<String> seen, String call, long answer) {
        seen.add(call + " is " + answer);
    }

    private static void glance(LanternPeople x, List<String> seen) {
        add(seen, "week", x.count(2));
        add(seen, "glows", x.count(7));
        add(seen, "at seat 0", x.seat(0));
    }

    /** All that can be seen of how it is, by some 160 calls. */
    static List<String> seen(LanternPeople x) {
        List<String> seen = new ArrayList<>();
        lookOver(x, seen);
        return seen;
    }

    private static void lookOver(LanternPeople x, List<String> seen) {
        for (int what = 0; what <= 17; what++) {
            add(seen, "count(" + what + ")", x.count(what));
        }
        for (int p = 0; p < 6; p++) {
            add(seen, "seat(" + p + ")", x.seat(p));
            for (int what = 0; what <= 6; what++) {
                add(seen, "person(" + p + ", " + what + ")", x.person(p, what));
            }
            for (int s = 0; s < 5; s++) {
                add(seen, "glow(" + p + ", " + s + ")", x.glow(p, s));
            }
        }
        for (int s = 0; s < 5; s++) {
            for (int what = 0; what < 4; what++) {
                add(seen, "slide(" + s + ", " + what + ")", x.slide(s, what));
            }
            for (int what = 0; what < 2; what++) {
                add(seen, "tells(0, " + s + ", " + what + ")", x.tells(0, s, what));
                add(seen, "tells(1, " + s + ", " + what + ")", x.tells(1, s, what));
            }
        }
        for (int k = 0; k <= 20; k++) {
            add(seen, "which(" + k + ", 1)", x.which(k, 1));
        }
    }
}
