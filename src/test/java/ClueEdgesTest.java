/** Edges of promises 37 to 43, of part IV and of what is undone and held, sentence by sentence. */
public final class ClueEdgesTest {
    /** LEFT 0 5, RIGHT 5 0, BRIGHT 1 20; a shows on all six. */
    private static final String ENDS = "slide a 0 5 1;slide b 5 0 20;person p 0;person q 0;person r 0;person s 0;person t 0;"
        + "person u 0;shown p a;shown q a;shown r a;shown s a;shown t a;shown u a;";

    private ClueEdgesTest() { }

    public static void main(String[] args) {
        toldNumbers();
        valuesOfMarks();
        showsNow();
        forgotten();
        knownByK();
        whichNone();
        lookEdges();
        lookOfAlikeOnes();
        noneIsLeft();
        slots();
        restored();
        restoredThenUndone();
        slotsAreTheTexts();
        counts();
        Check.end();
    }

    private static void toldNumbers() {
        Check.of("20 at most, numbered from 0 on;");
        LanternPeople x = Check.village(ENDS);
        for (int i = 0; i < 20; i++) {
            Check.due("told", x.tell(3, 20, false), i);
        }
        Check.of("It is TOLD: its number; NONE, and nothing happens: 20 are there, no such mark, no such v.");
        Check.due("20 are there", x.tell(3, 20, false), -1);
        Check.due("told", x.count(10), 20);
        Check.due("forget", x.forget(), 20);
        Check.due("numbered anew", x.tell(0, 0, true), 0);
        Check.due("without slides", new LanternPeople().tell(0, 20, true), 0);
    }

    private static void valuesOfMarks() {
        Check.of("is v (0 .. 20) or more, or is not;");
        int[][] values = {{0, 5}, {5, 0}, {1, 20}, {6, 0}};
        for (int mark = 0; mark < 4; mark++) {
            for (int v = 0; v <= 20; v++) {
                LanternPeople x = Check.village(ENDS);
                int due = (values[mark][0] >= v ? 1 : 0) | (values[mark][1] >= v ? 2 : 0);
                Check.due("tell", x.tell(mark, v, true), 0);
                Check.due("mark " + mark + " is " + v + " or more", x.which(1, 1), due);
                x.forget();
                Check.due("tell", x.tell(mark, v, false), 0);
                Check.due("mark " + mark + " is not", x.which(1, 1), 3 - due);
            }
        }
    }

    private static void showsNow() {
        Check.of("3 on how many PEOPLE it shows now)");
        LanternPeople x = Check.village(ENDS);
        x.tell(3, 6, true);
        Check.due("on six", x.which(1, 1), 1);
        x.show(0, 1);
        Check.due("on five", x.which(1, 1), 0);
        x.tell(3, 1, false);
        Check.due("none is on none", x.which(2, 1), 0);
        x.undo();
        Check.due("on six", x.which(1, 1), 1);
        Check.due("who fades", x.weeks(1), 1);
        Check.due("on none", x.which(1, 0), 0);
    }

    private static void forgotten() {
        Check.of("All that was TOLD is forgotten: how many there were.");
        LanternPeople x = Check.village(ENDS);
        Check.due("none", x.forget(), 0);
        x.tell(0, 1, true);
        Check.due("one", x.forget(), 1);
        Check.due("none again", x.forget(), 0);
        Check.due("known by 0", x.which(0, 1), 3);
        Check.due("known by 1", x.which(1, 1), -1);
    }

    private static void knownByK() {
        Check.of("KNOWN by k: the first k.");
        LanternPeople x = Check.village(ENDS);
        Check.due("by 0", x.which(0, 1), 3);
        Check.due("by 1", x.which(1, 1), -1);
        x.tell(0, 5, true);
        x.tell(0, 5, false);
        Check.due("by 0", x.which(0, 1), 3);
        Check.due("by 1", x.which(1, 1), 2);
        Check.due("by 2", x.which(2, 1), 0);
        Check.due("by 3", x.which(3, 1), -1);
        Check.due("by -1", x.which(-1, 1), -1);
        LanternPeople full = Check.village(ENDS);
        for (int i = 0; i < 19; i++) {
            full.tell(0, 0, true);
        }
        full.tell(2, 20, true);
        Check.due("by 19", full.which(19, 0), 2);
        Check.due("by 20", full.which(20, 0), 1);
        Check.due("by 20", full.which(20, 1), 2);
        Check.due("by 21", full.which(21, 1), -1);
        Check.due("look by 20", full.look(20, 0), 0);
        Check.due("look by 21", full.look(21, 0), -1);
    }

    private static void whichNone() {
        Check.of("WHICH: SLIDES of which all that is KNOWN is so: how many; which (bits).");
        LanternPeople none = new LanternPeople();
        Check.due("no slides", none.which(0, 0), 0);
        Check.due("no slides", none.which(0, 1), 0);
        LanternPeople five = Check.village("slide a 0 0 1;slide b 0 0 1;slide c 0 0 1;slide d 0 0 1;slide e 0 0 1;");
        Check.due("five", five.which(0, 0), 5);
        Check.due("five", five.which(0, 1), 31);
        five.tell(3, 0, false);
        Check.due("none of five", five.which(1, 0), 0);
        Check.due("none of five", five.which(1, 1), 0);
    }

    private static void lookEdges() {
        Check.of("LOOK by v (0 .. 20), as KNOWN by k; -2: none is left; NONE: no such ones.");
        LanternPeople x = Check.village(ENDS);
        Check.due("by 0: all alike", x.look(0, 0), 0);
        Check.due("by 1: LEFT", x.look(0, 1), 0);
        Check.due("by 6: BRIGHT, not edges", x.look(0, 6), 2);
        Check.due("by 20", x.look(0, 20), 2);
        Check.due("by 21", x.look(0, 21), -1);
        Check.due("by -1", x.look(0, -1), -1);
        Check.due("known by 1", x.look(1, 1), -1);
        Check.due("known by -1", x.look(-1, 1), -1);
        LanternPeople one = Check.village("slide a 3 3 3;");
        Check.due("one is left whatever is told", one.look(0, 3), 0);
    }

    private static void lookOfAlikeOnes() {
        Check.of("the mark of which, once it is told so, fewest are left, at worst; of alike ones the first.");
        // By 2: LEFT parts 1 from 3, RIGHT 2 from 2, BRIGHT 2 from 2.
        LanternPeople x = Check.village("slide a 2 2 1;slide b 0 2 1;slide c 0 0 5;slide d 0 0 5;");
        Check.due("RIGHT, ahead of BRIGHT", x.look(0, 2), 1);
        // Of c and d known alone nothing parts them: the first mark.
        x.tell(2, 5, true);
        Check.due("all alike", x.look(1, 2), 0);
        LanternPeople shown = Check.village("slide a 1 1 1;slide b 1 1 1;person p 0;shown p b;");
        Check.due("what shows alone parts them", shown.look(0, 1), 3);
        shown.show(0, 0);
        Check.due("now it is a", shown.look(0, 1), 3);
        Check.due("by 2 nothing does", shown.look(0, 2), 0);
    }

    private static void noneIsLeft() {
        Check.of("-2: none is left;");
        Check.due("no slides", new LanternPeople().look(0, 0), -2);
        Check.due("no slides, no v", new LanternPeople().look(0, 21), -1);
        Check.due("no slides, no k", new LanternPeople().look(1, 0), -1);
        LanternPeople x = Check.village(ENDS);
        x.tell(2, 0, false);
        Check.due("none is left", x.look(1, 5), -2);
        Check.due("known by 0", x.look(0, 5), 0);
        Check.due("none is left, no v", x.look(1, 21), -1);
    }

    private static void slots() {
        Check.of("is held in a SLOT (0 .. 2): true; false: no such one.");
        LanternPeople x = Check.village(ENDS);
        int[] counts = {1, 2, 3};
        for (int slot = 0; slot < 3; slot++) {
            Check.due("nothing yet", x.restore(slot), false);
            Check.due("hold", x.hold(slot), true);
            Check.due("slots", x.count(11), counts[slot]);
            Check.due("hold again", x.hold(slot), true);
            Check.due("slots", x.count(11), counts[slot]);
        }
        Check.due("3", x.hold(3), false);
        Check.due("-1", x.hold(-1), false);
        Check.due("slots", x.count(11), 3);
        Check.due("no thing done", x.count(9), 0);
        // The last one held stands there.
        x.weeks(2);
        x.hold(1);
        x.weeks(3);
        Check.due("restore", x.restore(1), true);
        Check.due("week", x.count(2), 2);
        Check.due("restore", x.restore(0), true);
        Check.due("week", x.count(2), 0);
        Check.due("restore", x.restore(2), true);
        Check.due("week", x.count(2), 0);
    }

    private static void restored() {
        Check.of("All that goes on (not what is TOLD, nor the tape) is held in a SLOT");
        LanternPeople x = Check.village(SceneTest.RING);
        x.show(3, 1);
        x.go(3, 0);
        x.weeks(2);
        int paid = x.count(6);
        int glows = x.count(7);
        x.tell(0, 1, true);
        x.feed(0x20202020, 0x20202020, 0x20202020, 0x20202020, 0x20202020);
        x.hold(0);
        x.wash(0);
        x.go(0, 3);
        x.weeks(5);
        x.tell(1, 1, true);
        x.feed(0x20202020, 0x20202020, 0x20202020, 0x20202020, 0x20202020);
        Check.of("It goes on from what a SLOT holds (that stays there; nothing can be undone then): true;");
        for (int i = 0; i < 2; i++) {
            Check.due("restore", x.restore(0), true);
            Check.due("week", x.count(2), 2);
            Check.due("paid", x.count(6), paid);
            Check.due("glows", x.count(7), glows);
            Check.due("seat", x.seat(0), 3);
            Check.due("told", x.count(10), 2);
            Check.due("tape", x.count(8), 40);
            Check.due("slots", x.count(11), 1);
            Check.due("things", x.count(9), 0);
            Check.due("undo", x.undo(), false);
            x.weeks(1);
        }
    }

    private static void restoredThenUndone() {
        Check.of("nothing can be undone then");
        LanternPeople x = Check.village(SceneTest.RING);
        x.weeks(1);
        x.hold(0);
        x.weeks(1);
        x.restore(0);
        x.weeks(4);
        Check.due("one thing", x.count(9), 1);
        Check.due("undo", x.undo(), true);
        Check.due("as it was held", x.count(2), 1);
        Check.due("no further", x.undo(), false);
        // An undo changes no slot.
        Check.due("slots", x.count(11), 1);
        // A refused one leaves what can be undone.
        x.weeks(1);
        Check.due("nothing held", x.restore(1), false);
        Check.due("things", x.count(9), 1);
        // The ring of the last forty, begun anew by a restore in its midst.
        for (int i = 0; i < 57; i++) {
            x.weeks(1);
        }
        x.restore(0);
        for (int i = 0; i < 41; i++) {
            x.weeks(1);
        }
        Check.due("things", x.count(9), 40);
        for (int i = 0; i < 40; i++) {
            x.undo();
        }
        Check.due("all but the first", x.count(2), 2);
        Check.due("none", x.undo(), false);
    }

    private static void slotsAreTheTexts() {
        Check.of("SLOTS hold nothing.");
        LanternPeople x = Check.village(SceneTest.RING);
        x.hold(0);
        x.hold(2);
        Check.due("read", Check.read(x, ENDS), 0);
        Check.due("slots", x.count(11), 0);
        Check.due("restore", x.restore(0), false);
        Check.due("restore", x.restore(2), false);
        Check.due("glows", x.count(7), 6);
        x.hold(1);
        Check.due("fault", Check.read(x, "seed"), 1);
        Check.due("slots", x.count(11), 1);
        Check.due("restore", x.restore(1), true);
    }

    private static void counts() {
        Check.of("0 SLIDES, 1 PEOPLE, 2 the week, 3 how many in the ROW JOIN, 4 PLAIN PEOPLE (bits), 5 PAYS of all now, added, "
            + "6 what was paid so far, 7 all GLOWS, added, 8 bytes on the tape, 9 things that can be undone, 10 TOLD ones, "
            + "11 SLOTS that hold something, 12 SLIDES that are PICTURES (bits), 13 who would WASH this week (bits), "
            + "14 how many two JOIN, one on the left of the other, wherever they stand, 15 WARM of all, added, "
            + "16 PEOPLE whose JOINS are 2 (bits), 17 how many are LONELY. NONE for others.");
        LanternPeople x = Check.village("slide a 0 0 20;slide b 1 1 1;slide c 2 2 1;slide d 3 3 1;slide e 4 4 1;"
            + "person p 9;person q 9;person r 9;person s 9;person t 9;person u 9;takes=99;pays=99;washes=100;"
            + "shown p a;shown q a;shown r a;shown s a;shown t a;shown u a;");
        int[] most = {5, 6, 0, 5, 0, 594, 0, 594, 0, 0, 0, 0, 1, 63, 30, 54, 30, 0};
        for (int what = 0; what < most.length; what++) {
            Check.due("count(" + what + ")", x.count(what), most[what]);
        }
        Check.due("18", x.count(18), -1);
        Check.due("-1", x.count(-1), -1);
        LanternPeople plain = Check.village("slide a 0 0 20;person p 0;person q 0;pays=99;washes=100;");
        int[] least = {1, 2, 0, 0, 3, 0, 0, 0, 0, 0, 0, 0, 0, 3, 0, 0, 0, 2};
        for (int what = 0; what < least.length; what++) {
            Check.due("count(" + what + ")", plain.count(what), least[what]);
        }
        LanternPeople five = Check.village("slide a 0 0 1;slide b 1 1 1;slide c 2 2 1;slide d 3 3 1;slide e 4 4 1;"
            + "person p 0;person q 0;person r 0;person s 0;person t 0;person u 0;shown p a;shown q b;shown r c;shown s d;shown t e;");
        Check.due("all are pictures", five.count(12), 31);
        Check.due("the sixth is plain", five.count(4), 32);
        Check.due("all are lonely", five.count(17), 6);
    }
}
