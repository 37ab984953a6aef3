/** Promises 6 to 16: what is there, and things done. */
public final class SceneTest {
    /** Three whose pictures join in a ring, and one plain. */
    static final String RING = "slide sun 0 1 10;slide sea 1 2 6;slide owl 2 0 4;"
        + "person ann 3;person bob 0;person cyd 9;person dot 5;shown ann sun;shown bob sea;shown cyd owl;";

    private SceneTest() { }

    public static void main(String[] args) {
        slide();
        person();
        glow();
        tells();
        join();
        seat();
        show();
        thrownAtFirst();
        wash();
        go();
        weeks();
        weeksByHowItBegan();
        washingWeeks();
        undo();
        undoForty();
        Check.end();
    }

    private static void slide() {
        LanternPeople x = Check.village(RING + "shown dot sun;");
        Check.due("left", x.slide(1, 0), 1);
        Check.due("right", x.slide(1, 1), 2);
        Check.due("bright", x.slide(1, 2), 6);
        Check.due("whose", x.slide(0, 3), 1 | 8);
        Check.due("whose", x.slide(2, 3), 4);
        Check.due("others", x.slide(0, 4), -1);
        Check.due("others", x.slide(0, -1), -1);
        Check.due("no slide", x.slide(3, 0), -1);
        Check.due("no slide", x.slide(-1, 0), -1);
        Check.due("no slide", x.slide(Integer.MAX_VALUE, 3), -1);
    }

    private static void person() {
        LanternPeople x = Check.village(RING + "shown ann sea;pays=glow/2+warm;washes=glow+warm*10+others;");
        Check.due("warm", x.person(0, 0), 3);
        Check.due("picture", x.person(0, 1), 0);
        Check.due("plain", x.person(3, 1), -2);
        Check.due("seat", x.person(2, 2), 2);
        Check.due("joins", x.person(0, 3), 1);
        Check.due("joins", x.person(1, 3), 2);
        Check.due("joins", x.person(2, 3), 1);
        Check.due("joins", x.person(3, 3), 0);
        Check.due("pays", x.person(0, 4), 8);
        Check.due("pays of a plain one", x.person(3, 4), 0);
        Check.due("washes", x.person(0, 5), 10 + 30 + 6);
        Check.due("washes of a plain one", x.person(3, 5), 50);
        Check.due("washes", x.person(2, 5), 94);
        Check.due("all glows", x.person(0, 6), 16);
        Check.due("others", x.person(0, 7), -1);
        Check.due("others", x.person(0, -1), -1);
        Check.due("nobody", x.person(4, 0), -1);
        Check.due("nobody", x.person(-1, 0), -1);
        LanternPeople held = Check.village("slide a 0 0 9;person p 9;shown p a;pays=glow*100;washes=warm*100;");
        Check.due("pays to 99", held.person(0, 4), 99);
        Check.due("washes to 100", held.person(0, 5), 100);
        LanternPeople low = Check.village("slide a 0 0 9;person p 9;shown p a;pays=0-1;washes=0-1;");
        Check.due("pays from 0", low.person(0, 4), 0);
        Check.due("washes from 0", low.person(0, 5), 0);
        // Of alike ones the first is the picture.
        LanternPeople alike = Check.village("slide a 0 0 1;slide b 0 0 5;slide c 0 0 5;person p 1;shown p c;shown p b;");
        Check.due("picture of alike ones", alike.person(0, 1), 1);
        // which, bright, glow are 0 for a plain one's washes.
        LanternPeople plain = Check.village("slide a 0 0 9;person p 9;washes=50+which+bright+glow+others+slides;");
        Check.due("washes of a plain one", plain.person(0, 5), 51);
    }

    private static void glow() {
        LanternPeople x = Check.village(RING);
        Check.due("glow", x.glow(0, 0), 10);
        Check.due("glow", x.glow(0, 1), 0);
        Check.due("glow", x.glow(2, 2), 4);
        Check.due("nobody", x.glow(4, 0), -1);
        Check.due("nobody", x.glow(-1, 0), -1);
        Check.due("no slide", x.glow(0, 3), -1);
        Check.due("no slide", x.glow(0, -1), -1);
    }

    private static void tells() {
        LanternPeople x = Check.village(RING + "shown ann sea;takes=glow+10*joins+others;fades=which*20+seat+week;");
        // As the slides were thrown: nothing glowed, so TAKES was 0.
        Check.due("nothing", x.count(7), 0);
        x = Check.village(RING + "takes=20+10*joins+glow/2+others+seat;fades=which*20+seat+week;");
        // ann 20; bob 21 (ann's picture is there, but bob is plain); cyd 22.
        Check.due("glow", x.glow(0, 0), 20);
        Check.due("glow", x.glow(1, 1), 21);
        Check.due("glow", x.glow(2, 2), 22);
        Check.due("takes", x.tells(1, 1, 0), 20 + 20 + 10 + 0 + 1);
        Check.due("takes", x.tells(1, 0, 0), 20 + 20 + 0 + 21 + 1);
        Check.due("takes", x.tells(3, 0, 0), 23);
        Check.due("fades", x.tells(3, 2, 1), 43);
        x.weeks(1);
        Check.due("fades", x.tells(3, 2, 1), 44);
        Check.due("others", x.tells(0, 0, 2), -1);
        Check.due("others", x.tells(0, 0, -1), -1);
        Check.due("nobody", x.tells(4, 0, 0), -1);
        Check.due("no slide", x.tells(0, 3, 0), -1);
        Check.due("no slide", x.tells(0, -1, 1), -1);
    }

    private static void join() {
        LanternPeople x = Check.village(RING);
        Check.due("0 1", x.join(0, 1), 1);
        Check.due("1 0", x.join(1, 0), 0);
        Check.due("2 0", x.join(2, 0), 1);
        Check.due("2 3", x.join(2, 3), 0);
        Check.due("3 0", x.join(3, 0), 0);
        Check.due("one and the same", x.join(1, 1), -1);
        Check.due("nobody", x.join(0, 4), -1);
        Check.due("nobody", x.join(-1, 0), -1);
        LanternPeople same = Check.village("slide a 3 3 9;person p 1;person q 1;shown p a;shown q a;");
        Check.due("alike ones", same.join(0, 1) + same.join(1, 0), 2);
    }

    private static void seat() {
        LanternPeople x = Check.village(RING);
        Check.due("seat", x.seat(3), 3);
        x.go(3, 0);
        Check.due("seat", x.seat(0), 3);
        Check.due("seat", x.seat(1), 0);
        Check.due("no seat", x.seat(4), -1);
        Check.due("no seat", x.seat(-1), -1);
    }

    private static void show() {
        LanternPeople x = Check.village(RING);
        Check.due("show", x.show(3, 2), 2);
        Check.due("show", x.show(3, 1), 1);
        Check.due("glows", x.person(3, 6), 10);
        Check.due("show", x.show(3, 2), 2);
        Check.due("glow", x.glow(3, 2), 8);
        Check.due("nobody", x.show(4, 0), -1);
        Check.due("no slide", x.show(0, 3), -1);
        Check.due("things", x.count(9), 3);
        for (int i = 0; i < 20; i++) {
            x.show(0, 0);
        }
        Check.due("99 at most", x.glow(0, 0), 99);
        LanternPeople none = Check.village("slide a 0 0 9;person p 1;takes=0;");
        Check.due("still plain", none.show(0, 0), -2);
        Check.due("but a thing done", none.count(9), 1);
    }

    private static void thrownAtFirst() {
        // The last law counts, whichever was told ahead, and each is thrown on what glows by then.
        LanternPeople x = Check.village("takes=1;slide a 0 0 9;person p 1;shown p a;shown p a;shown p a;"
            + "takes=glow+slides;slide b 0 0 3;person q 2;shown p b;");
        Check.due("glow", x.glow(0, 0), 2 + 4 + 8);
        Check.due("glow", x.glow(0, 1), 2);
        Check.due("things", x.count(9), 0);
    }

    private static void wash() {
        LanternPeople x = Check.village(RING + "shown ann sea;shown ann owl;shown ann owl;");
        // 10, 6, 8.
        Check.due("wash", x.wash(0), 5 + 3 + 4);
        Check.due("wash", x.wash(0), 2 + 1 + 2);
        Check.due("glow", x.glow(0, 1), 1);
        Check.due("others stay", x.glow(1, 1), 6);
        Check.due("wash", x.wash(0), 1 + 0 + 1);
        Check.due("wash", x.wash(0), 0);
        Check.due("plain", x.wash(0), -1);
        Check.due("plain", x.wash(3), -1);
        Check.due("nobody", x.wash(4), -1);
        Check.due("nobody", x.wash(-1), -1);
        Check.due("things", x.count(9), 4);
    }

    private static void row(LanternPeople x, int... who) {
        for (int i = 0; i < who.length; i++) {
            Check.due("seat(" + i + ")", x.seat(i), who[i]);
            Check.due("person's seat", x.person(who[i], 2), i);
        }
    }

    private static void go() {
        LanternPeople x = Check.village(RING);
        Check.due("go", x.go(0, 2), true);
        row(x, 1, 2, 0, 3);
        Check.due("go", x.go(3, 1), true);
        row(x, 1, 3, 2, 0);
        Check.due("go", x.go(1, 3), true);
        row(x, 3, 2, 0, 1);
        Check.due("joins", x.count(3), 2);
        Check.due("theirs", x.go(1, 3), false);
        Check.due("no seat", x.go(1, 4), false);
        Check.due("no seat", x.go(1, -1), false);
        Check.due("nobody", x.go(4, 0), false);
        Check.due("nobody", x.go(-1, 0), false);
        Check.due("things", x.count(9), 3);
    }

    private static void weeks() {
        LanternPeople x = Check.village(RING);
        Check.due("weeks(0)", x.weeks(0), 0);
        Check.due("things", x.count(9), 0);
        Check.due("weeks(1)", x.weeks(1), 1);
        Check.due("paid", x.count(6), 20);
        Check.due("glow", x.glow(0, 0), 9);
        Check.due("glow", x.glow(2, 2), 3);
        Check.due("weeks(3)", x.weeks(3), 4);
        Check.due("plain", x.person(2, 1), -2);
        // 20 + 17 + 14 + 11.
        Check.due("paid", x.count(6), 62);
        Check.due("weeks(0)", x.weeks(0), 4);
        Check.due("things", x.count(9), 2);
        Check.due("weeks(60)", x.weeks(60), 64);
        Check.due("glows", x.count(7), 0);
        Check.due("weeks(61)", x.weeks(61), -1);
        Check.due("weeks(-1)", x.weeks(-1), -1);
        Check.due("week", x.count(2), 64);
        Check.due("things", x.count(9), 3);
        LanternPeople empty = new LanternPeople();
        Check.due("weeks of nobody", empty.weeks(60), 60);
        Check.due("is a thing done", empty.count(9), 1);
    }

    private static void weeksByHowItBegan() {
        // ann fades to plain; bob, beside her, still has their join, and others, in this week's laws.
        LanternPeople x = Check.village("slide a 0 0 5;person ann 0;person bob 0;shown ann a;shown bob a;"
            + "fades=if seat<1 then 5 else joins*2;pays=joins*10+glow;");
        x.weeks(1);
        Check.due("glow", x.glow(0, 0), 0);
        Check.due("glow", x.glow(1, 0), 3);
        Check.due("paid", x.count(6), 30);
        x.weeks(1);
        Check.due("glow", x.glow(1, 0), 3);
        Check.due("paid", x.count(6), 33);
        // Two slides of one person: both fade by what the other was.
        LanternPeople y = Check.village("slide a 0 0 9;slide b 0 0 4;person p 0;shown p a;shown p b;fades=others;");
        y.weeks(1);
        Check.due("glow", y.glow(0, 0), 5);
        Check.due("glow", y.glow(0, 1), 0);
    }

    private static void washingWeeks() {
        // LOT 100 of seed 0 in week 0: 35 12 4 40 47 85, in week 1: 25 94 15 98 28 51.
        String six = "slide a 0 0 20;person p 0;person q 1;person r 2;person s 3;person t 4;person u 5;"
            + "shown p a;shown q a;shown r a;shown s a;shown t a;shown u a;fades=1;";
        LanternPeople x = Check.village(six + "washes=40;");
        Check.due("who would wash", x.count(13), 1 | 2 | 4);
        x.weeks(1);
        // First 1 less, then half.
        Check.due("glow", x.glow(0, 0), 9);
        Check.due("glow", x.glow(2, 0), 9);
        Check.due("glow", x.glow(3, 0), 19);
        Check.due("who would wash", x.count(13), 1 | 4 | 16);
        x.weeks(1);
        Check.due("glow", x.glow(0, 0), 4);
        Check.due("glow", x.glow(1, 0), 8);
        Check.due("glow", x.glow(4, 0), 9);
        LanternPeople y = Check.village(six + "washes=41;");
        Check.due("who would wash", y.count(13), 1 | 2 | 4 | 8);
        // Of seed 7 in week 0: 5 75 35 98 53 90.
        LanternPeople z = Check.village(six + "washes=53;seed 7;");
        Check.due("who would wash", z.count(13), 1 | 4);
        LanternPeople all = Check.village(six + "washes=100;");
        Check.due("who would wash", all.count(13), 63);
        // WASHES, too, by how the week began: glow 20 is more than 19.
        LanternPeople b = Check.village(six + "washes=if 19<glow then 100 else 0;");
        b.weeks(1);
        Check.due("glow", b.glow(5, 0), 9);
        b.weeks(1);
        Check.due("glow", b.glow(5, 0), 8);
        // By the number of the person, wherever they stand.
        LanternPeople c = Check.village(six + "washes=40;");
        c.go(2, 5);
        Check.due("who would wash", c.count(13), 1 | 2 | 4);
        // A plain one would wash, too.
        LanternPeople d = Check.village("person p 0;person q 1;washes=13;");
        Check.due("who would wash", d.count(13), 2);
    }

    private static void undo() {
        LanternPeople x = Check.village(RING + "shown ann sea;");
        x.show(3, 0);
        x.wash(0);
        x.go(0, 3);
        x.weeks(2);
        Check.due("things", x.count(9), 4);
        Check.due("undo weeks", x.undo(), true);
        Check.due("week", x.count(2), 0);
        Check.due("paid", x.count(6), 0);
        Check.due("glow", x.glow(0, 0), 5);
        Check.due("seat", x.person(0, 2), 3);
        Check.due("undo go", x.undo(), true);
        row(x, 0, 1, 2, 3);
        Check.due("undo wash", x.undo(), true);
        Check.due("glow", x.glow(0, 0), 10);
        Check.due("glow", x.glow(0, 1), 6);
        Check.due("glow", x.glow(3, 0), 10);
        Check.due("undo show", x.undo(), true);
        Check.due("glow", x.glow(3, 0), 0);
        Check.due("picture", x.person(3, 1), -2);
        Check.due("none", x.undo(), false);
        Check.due("things", x.count(9), 0);
    }

    private static void undoForty() {
        LanternPeople x = new LanternPeople();
        for (int i = 1; i <= 45; i++) {
            x.weeks(1);
        }
        Check.due("things", x.count(9), 40);
        for (int i = 0; i < 10; i++) {
            x.undo();
        }
        Check.due("week", x.count(2), 35);
        for (int i = 0; i < 15; i++) {
            x.weeks(2);
        }
        Check.due("week", x.count(2), 65);
        Check.due("things", x.count(9), 40);
        for (int i = 0; i < 40; i++) {
            Check.due("undo " + i, x.undo(), true);
        }
        Check.due("undo", x.undo(), false);
        Check.due("week", x.count(2), 10);
    }
}
