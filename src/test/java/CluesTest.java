/** Promises 37 to 43: what is told of a slide unknown, slots, counts. */
public final class CluesTest {
    private static final String RING = SceneTest.RING;

    private CluesTest() { }

    public static void main(String[] args) {
        tell();
        forget();
        which();
        shownNow();
        look();
        hold();
        restore();
        count();
        Check.end();
    }

    private static void tell() {
        LanternPeople x = Check.village(RING);
        Check.due("no mark", x.tell(4, 1, true), -1);
        Check.due("no mark", x.tell(-1, 1, true), -1);
        Check.due("no v", x.tell(0, 21, true), -1);
        Check.due("no v", x.tell(0, -1, true), -1);
        Check.due("told", x.count(10), 0);
        for (int i = 0; i < 20; i++) {
            Check.due("tell " + i, x.tell(i % 4, i + 1, i % 2 == 0), i);
        }
        Check.due("20 are there", x.tell(0, 0, true), -1);
        Check.due("told", x.count(10), 20);
        Check.due("no thing done", x.count(9), 0);
    }

    private static void forget() {
        LanternPeople x = Check.village(RING);
        Check.due("forget none", x.forget(), 0);
        x.tell(0, 1, true);
        x.tell(1, 1, false);
        Check.due("forget", x.forget(), 2);
        Check.due("told", x.count(10), 0);
        Check.due("which(1)", x.which(1, 0), -1);
        Check.due("from 0 on again", x.tell(3, 0, true), 0);
    }

    private static void which() {
        // LEFT 0 1 2, RIGHT 1 2 0, BRIGHT 10 6 4.
        LanternPeople x = Check.village(RING);
        Check.due("all", x.which(0, 0), 3);
        Check.due("all", x.which(0, 1), 7);
        x.tell(0, 1, true);
        x.tell(2, 6, false);
        x.tell(1, 1, true);
        Check.due("left 1 or more", x.which(1, 1), 2 | 4);
        Check.due("not bright 6 or more", x.which(2, 1), 4);
        Check.due("how many", x.which(2, 0), 1);
        Check.due("none", x.which(3, 0), 0);
        Check.due("none", x.which(3, 1), 0);
        Check.due("no k", x.which(4, 0), -1);
        Check.due("no k", x.which(-1, 0), -1);
        Check.due("others", x.which(0, 2), -1);
        Check.due("others", x.which(0, -1), -1);
        Check.due("v 0", x.tell(3, 0, false), 3);
        Check.due("no slide is below 0", x.which(4, 1), 0);
    }

    private static void shownNow() {
        LanternPeople x = Check.village(RING);
        x.tell(3, 2, true);
        Check.due("on two", x.which(1, 1), 0);
        x.show(3, 1);
        Check.due("on two", x.which(1, 1), 2);
        x.undo();
        Check.due("on two", x.which(1, 1), 0);
    }

    private static void look() {
        LanternPeople x = Check.village(RING);
        // By 10: LEFT, RIGHT leave 3 at worst, BRIGHT 2.
        Check.due("by 10", x.look(0, 10), 2);
        // By 1: LEFT leaves 2 at worst, the first that does.
        Check.due("by 1", x.look(0, 1), 0);
        Check.due("by 20, all alike", x.look(0, 20), 0);
        Check.due("by 0", x.look(0, 0), 0);
        // By 5: of sea and owl BRIGHT alone tells one from the other.
        x.tell(0, 1, true);
        Check.due("by 5", x.look(1, 5), 2);
        // By 1: RIGHT 2 and 0.
        Check.due("by 1", x.look(1, 1), 1);
        Check.due("no v", x.look(0, 21), -1);
        Check.due("no v", x.look(0, -1), -1);
        Check.due("no k", x.look(2, 1), -1);
        Check.due("no k", x.look(-1, 1), -1);
        x.tell(0, 3, true);
        Check.due("none is left", x.look(2, 1), -2);
        Check.due("none is left, no v", x.look(2, 21), -1);
        LanternPeople shown = Check.village("slide a 0 0 1;slide b 0 0 1;slide c 0 0 1;person p 0;person q 0;shown p b;shown q b;");
        // Only on how many it shows tells one of them from the others.
        Check.due("by 2", shown.look(0, 2), 3);
        Check.due("by 1", shown.look(0, 1), 2 + 1);
        LanternPeople five = Check.village("slide a 0 0 1;slide b 0 0 1;slide c 0 0 1;slide d 0 0 1;slide e 0 0 20;");
        // BRIGHT leaves 4 at worst, the others all 5.
        Check.due("one of five", five.look(0, 10), 2);
    }

    private static void hold() {
        LanternPeople x = Check.village(RING);
        Check.due("no slot", x.hold(3), false);
        Check.due("no slot", x.hold(-1), false);
        Check.due("slots", x.count(11), 0);
        Check.due("hold", x.hold(2), true);
        Check.due("hold", x.hold(2), true);
        Check.due("slots", x.count(11), 1);
        Check.due("hold", x.hold(0), true);
        Check.due("slots", x.count(11), 2);
        Check.due("no thing done", x.count(9), 0);
    }

    private static void restore() {
        LanternPeople x = Check.village(RING);
        Check.due("nothing held", x.restore(0), false);
        x.weeks(1);
        x.go(0, 3);
        x.hold(0);
        Check.due("no slot", x.restore(3), false);
        Check.due("no slot", x.restore(-1), false);
        Check.due("nothing held", x.restore(1), false);
        Check.due("things stay", x.count(9), 2);
        x.show(3, 0);
        x.weeks(2);
        x.hold(1);
        x.tell(0, 1, true);
        x.feed(1, 2, 3, 4, 5);
        Check.due("restore", x.restore(0), true);
        Check.due("week", x.count(2), 1);
        Check.due("paid", x.count(6), 20);
        Check.due("glow", x.glow(0, 0), 9);
        Check.due("plain", x.person(3, 1), -2);
        Check.due("seat", x.seat(3), 0);
        Check.due("things", x.count(9), 0);
        Check.due("undo", x.undo(), false);
        Check.due("told", x.count(10), 1);
        Check.due("tape", x.count(8), 20);
        x.weeks(5);
        Check.due("it stays there", x.restore(0), true);
        Check.due("week", x.count(2), 1);
        Check.due("another", x.restore(1), true);
        Check.due("week", x.count(2), 3);
        Check.due("glow", x.glow(3, 0), 8);
        // What goes on after a hold does not change what is held.
        x.hold(2);
        x.wash(0);
        Check.due("washed", x.glow(0, 0), 3);
        x.restore(2);
        Check.due("not washed", x.glow(0, 0), 7);
    }

    private static void count() {
        LanternPeople x = Check.village(RING + "pays=glow+joins;washes=13;");
        int[] due = {3, 4, 0, 2, 8, 10 + 1 + 6 + 2 + 4 + 1, 0, 20, 0, 0, 0, 0, 7, 2 | 4, 3, 17, 2, 1};
        for (int what = 0; what < due.length; what++) {
            Check.due("count(" + what + ")", x.count(what), due[what]);
        }
        Check.due("others", x.count(18), -1);
        Check.due("others", x.count(-1), -1);
        Check.due("others", x.count(Integer.MAX_VALUE), -1);
        Check.due("others", x.count(Integer.MIN_VALUE), -1);
        LanternPeople pair = Check.village("slide x 0 1 5;slide y 1 0 5;slide z 2 2 1;person p 0;person q 0;shown p x;shown q y;");
        Check.due("two, either way", pair.count(14), 2);
        Check.due("in the row", pair.count(3), 1);
        Check.due("pictures", pair.count(12), 3);
        LanternPeople between = Check.village(RING);
        between.go(0, 1);
        between.go(2, 0);
        // cyd bob ann dot, then cyd ann bob dot.
        Check.due("none joins twice", between.count(16), 0);
        between.go(0, 1);
        Check.due("ann joins twice", between.count(16), 1);
    }
}
