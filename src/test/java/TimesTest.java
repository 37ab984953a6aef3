/** Promises 26 to 36: what would be paid, who turns plain, who is like whom, chances by seeds. */
public final class TimesTest {
    private static final String RING = SceneTest.RING;

    private TimesTest() { }

    public static void main(String[] args) {
        worth();
        plainIn();
        turns();
        like();
        lonely();
        brightest();
        open();
        share();
        then();
        paidIn();
        year();
        nothingHappens();
        Check.end();
    }

    private static void worth() {
        LanternPeople x = Check.village(RING + "washes=100;");
        Check.due("worth(0)", x.worth(0), 0);
        Check.due("worth(1)", x.worth(1), 20);
        // Nobody washes: 20 + 17 + 14 + 11.
        Check.due("worth(4)", x.worth(4), 62);
        // 10 .. 1, 6 .. 1, 4 .. 1.
        Check.due("worth(60)", x.worth(60), 55 + 21 + 10);
        Check.due("no such n", x.worth(61), -1);
        Check.due("no such n", x.worth(-1), -1);
        x.weeks(1);
        // Washed and faded: 4, 2, 1; what was paid so far does not count.
        Check.due("worth(1)", x.worth(1), 7);
        LanternPeople week = Check.village("slide a 0 0 9;person p 0;shown p a;fades=0;pays=week;");
        Check.due("by weeks", week.worth(4), 0 + 1 + 2 + 3);
        week.weeks(2);
        Check.due("by weeks", week.worth(2), 2 + 3);
    }

    private static LanternPeople brightFor(int weeks) {
        return Check.village("slide a 0 0 20;person p 0;shown p a;takes=99;washes=100;"
            + "fades=if week<" + weeks + " then 0 else 1;");
    }

    private static void plainIn() {
        LanternPeople x = Check.village(RING + "washes=100;");
        Check.due("ann", x.plainIn(0), 10);
        Check.due("cyd", x.plainIn(2), 4);
        Check.due("plain now", x.plainIn(3), 0);
        Check.due("nobody", x.plainIn(4), -1);
        Check.due("nobody", x.plainIn(-1), -1);
        x.weeks(1);
        Check.due("ann later, washed", x.plainIn(0), 4);
        Check.due("99", brightFor(0).plainIn(0), 99);
        Check.due("100", brightFor(1).plainIn(0), 100);
        Check.due("101 are too many", brightFor(2).plainIn(0), -2);
        LanternPeople never = Check.village(RING + "fades=0;");
        Check.due("not", never.plainIn(0), -2);
    }

    private static void turns() {
        // a 9 6 3 0, b 5 4 3 2 1 0: in week 2 they are alike, the first shows.
        LanternPeople x = Check.village("slide a 0 0 9;slide b 0 0 5;person p 0;person q 0;shown p a;shown p b;"
            + "fades=3-2*which;washes=100;");
        Check.due("turns", x.turns(0), 3);
        Check.due("plain in", x.plainIn(0), 5);
        Check.due("plain now", x.turns(1), -2);
        Check.due("nobody", x.turns(2), -1);
        Check.due("nobody", x.turns(-1), -1);
        LanternPeople later = Check.village(RING);
        later.weeks(2);
        Check.due("later", later.turns(0), 8);
        Check.due("to none", Check.village(RING).turns(1), 6);
        Check.due("100", brightFor(1).turns(0), 100);
        Check.due("101 are too many", brightFor(2).turns(0), -2);
        Check.due("not", Check.village(RING + "fades=0;").turns(0), -2);
    }

    private static void like() {
        LanternPeople x = Check.village(RING + "shown dot sun;");
        Check.due("ann", x.like(0), 8);
        Check.due("dot", x.like(3), 1);
        Check.due("bob", x.like(1), 0);
        Check.due("nobody", x.like(4), -1);
        Check.due("nobody", x.like(-1), -1);
        Check.due("plain ones", Check.village("slide a 0 0 1;person p 0;person q 0;").like(0), 0);
    }

    private static void lonely() {
        Check.due("dot", Check.village(RING).lonely(), 8);
        LanternPeople x = Check.village(RING);
        // Wherever they stand: cyd and ann join, with bob plain between them.
        x.wash(1);
        x.wash(1);
        x.wash(1);
        Check.due("bob and dot", x.lonely(), 2 | 8);
        Check.due("how many", x.count(17), 2);
        Check.due("one", Check.village("slide a 0 0 1;person p 0;shown p a;").lonely(), 1);
        LanternPeople two = Check.village("slide a 0 1 9;slide b 1 2 9;person p 0;person q 0;person r 0;shown p a;shown q b;");
        Check.due("r", two.lonely(), 4);
        Check.due("nobody", new LanternPeople().lonely(), 0);
    }

    private static void brightest() {
        LanternPeople x = Check.village(RING);
        Check.due("who", x.brightest(0), 0);
        Check.due("how much", x.brightest(1), 10);
        Check.due("others", x.brightest(2), -1);
        Check.due("others", x.brightest(-1), -1);
        x.show(1, 2);
        Check.due("not by all glows", x.brightest(0), 0);
        x.show(3, 0);
        x.go(3, 0);
        Check.due("the first of alike ones", x.brightest(0), 0);
        x.show(2, 2);
        x.show(2, 2);
        Check.due("who", x.brightest(0), 2);
        Check.due("how much", x.brightest(1), 12);
        LanternPeople plain = Check.village("slide a 0 0 1;person p 0;person q 0;shown q a;");
        Check.due("just so", plain.brightest(0), 1);
        Check.due("just so", plain.brightest(1), 1);
        Check.due("just so", plain.share(1), 1000);
        plain.wash(1);
        Check.due("all plain", plain.brightest(0), -2);
        Check.due("all plain", plain.brightest(1), -2);
        Check.due("others", plain.brightest(2), -1);
    }

    private static void open() {
        LanternPeople x = Check.village(RING);
        Check.due("cyd's edge", x.open(), 4);
        x.go(3, 0);
        Check.due("dot's edge", x.open(), 1);
        x.go(3, 2);
        Check.due("both of dot's", x.open(), 2 | 4);
        Check.due("one", Check.village("person p 0;").open(), 0);
        Check.due("nobody", new LanternPeople().open(), 0);
    }

    private static void share() {
        LanternPeople x = Check.village(RING + "shown ann sea;shown ann owl;shown ann owl;");
        // 10 of 24.
        Check.due("ann", x.share(0), 416);
        Check.due("bob", x.share(1), 1000);
        Check.due("plain", x.share(3), 0);
        Check.due("nobody", x.share(4), -1);
        Check.due("nobody", x.share(-1), -1);
    }

    private static void then() {
        // LOT of seed 0 for the first: 35 25 34 48; of the second: 12 94 21 63.
        LanternPeople x = Check.village("slide a 0 0 20;slide b 0 0 20;person p 0;person q 0;shown p b;shown q a;washes=40;");
        // p: 20, 9, 4, 1, 0.
        Check.due("now", x.then(0, 0), 1);
        Check.due("in 3", x.then(0, 3), 1);
        Check.due("in 4", x.then(0, 4), -2);
        // q: 20, 9, 8, 3, 2.
        Check.due("in 4", x.then(1, 4), 0);
        Check.due("in 60", x.then(1, 60), -2);
        Check.due("no such n", x.then(0, 61), -1);
        Check.due("no such n", x.then(0, -1), -1);
        Check.due("nobody", x.then(2, 0), -1);
        Check.due("nobody", x.then(-1, 0), -1);
        Check.due("plain now", Check.village(RING).then(3, 5), -2);
    }

    private static void paidIn() {
        LanternPeople x = Check.village("slide a 0 0 20;person p 0;person q 0;shown p a;shown q a;washes=40;");
        Check.due("in 0", x.paidIn(0), 0);
        Check.due("in 1", x.paidIn(1), 40);
        Check.due("in 2", x.paidIn(2), 40 + 18);
        Check.due("in 3", x.paidIn(3), 40 + 18 + 12);
        Check.due("no washing", x.worth(3), 40 + 38 + 36);
        x.weeks(1);
        Check.due("in 0", x.paidIn(0), 40);
        Check.due("in 2", x.paidIn(2), 40 + 18 + 12);
        Check.due("no such n", x.paidIn(61), -1);
        Check.due("no such n", x.paidIn(-1), -1);
    }

    private static void year() {
        // LOT for the first, of seed 9999: 95 29 80 22, of 10000: 71 81 19 74.
        LanternPeople x = Check.village("slide a 0 0 3;person p 0;person q 0;shown p a;washes=30;seed 9999;");
        Check.due("1 week, 2 seeds", x.year(0, 1, 2), 0);
        Check.due("2 weeks, 1 seed", x.year(0, 2, 1), 1);
        Check.due("2 weeks, 2 seeds", x.year(0, 2, 2), 1);
        Check.due("3 weeks, 2 seeds", x.year(0, 3, 2), 2);
        Check.due("60 weeks, 20 seeds", x.year(0, 60, 20), 20);
        Check.due("0 weeks", x.year(0, 0, 20), 0);
        Check.due("plain now", x.year(1, 0, 20), 20);
        Check.due("no seeds", x.year(0, 1, 0), -1);
        Check.due("too many seeds", x.year(0, 1, 21), -1);
        Check.due("too many weeks", x.year(0, 61, 1), -1);
        Check.due("no such weeks", x.year(0, -1, 1), -1);
        Check.due("nobody", x.year(2, 1, 1), -1);
        Check.due("nobody", x.year(-1, 1, 1), -1);
        x.weeks(1);
        // It goes on in week 1.
        Check.due("1 week more", x.year(0, 1, 2), 1);
        LanternPeople y = Check.village("slide a 0 0 9;slide b 0 0 3;person p 0;shown p b;washes=30;seed 9999;");
        Check.due("whichever slide it is, 2 weeks", y.year(0, 2, 2), 1);
        Check.due("whichever slide it is, 3 weeks", y.year(0, 3, 2), 2);
    }

    private static void nothingHappens() {
        LanternPeople x = Check.village(RING + "washes=50;");
        x.worth(60);
        x.plainIn(0);
        x.turns(0);
        x.then(0, 60);
        x.paidIn(60);
        x.year(0, 60, 20);
        Check.due("glows", x.count(7), 20);
        Check.due("week", x.count(2), 0);
        Check.due("paid", x.count(6), 0);
        Check.due("things", x.count(9), 0);
    }
}
