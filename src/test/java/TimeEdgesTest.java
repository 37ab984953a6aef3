/** Edges of promises 26 to 36 and of the weeks that would be, sentence by sentence. */
public final class TimeEdgesTest {
    private static final String SIX = "person p 0;person q 1;person r 2;person s 3;person t 4;person u 5;";
    private static final String ALL_X = "shown p x;shown q x;shown r x;shown s x;shown t x;shown u x;";
    private static final String ONE = "slide a 0 0 20;person p 0;takes=99;";

    private TimeEdgesTest() { }

    public static void main(String[] args) {
        worthEdges();
        nobodyWashes();
        plainIn();
        turns();
        turnsToAnother();
        like();
        lonely();
        brightest();
        open();
        share();
        thenEdges();
        paidInEdges();
        yearEdges();
        yearSeeds();
        nothingThere();
        Check.end();
    }

    private static void worthEdges() {
        Check.of("WORTH of n (0 .. 60) WEEKS: what is paid in them.");
        LanternPeople x = Check.village(ONE + "shown p a;fades=0;pays=week+1;");
        Check.due("0", x.worth(0), 0);
        Check.due("1", x.worth(1), 1);
        Check.due("59", x.worth(59), 59 * 60 / 2);
        Check.due("60", x.worth(60), 60 * 61 / 2);
        Check.due("61", x.worth(61), -1);
        Check.due("-1", x.worth(-1), -1);
        x.weeks(60);
        Check.due("0 later", x.worth(0), 0);
        Check.due("1 later", x.worth(1), 61);
        // 61 .. 99, and 99 for 21 weeks more.
        Check.due("60 later", x.worth(60), 80 * 39 + 21 * 99);
        LanternPeople most = Check.village("slide x 0 0 20;" + SIX + ALL_X + "fades=0;pays=99;");
        Check.due("the most", most.worth(60), 6 * 99 * 60);
        Check.due("nobody", new LanternPeople().worth(60), 0);
        Check.due("plain", Check.village(ONE + "pays=99;").worth(60), 0);
    }

    private static void nobodyWashes() {
        Check.of("(nothing happens; nobody WASHES but in IN n WEEKS and YEAR)");
        LanternPeople x = Check.village(ONE + "shown p a;fades=1;washes=100;");
        Check.due("worth", x.worth(3), 99 + 98 + 97);
        Check.due("plain in", x.plainIn(0), 99);
        Check.due("turns", x.turns(0), 99);
        // With washing: 99 49 24 11 5 2 0.
        Check.due("paid in", x.paidIn(6), 99 + 49 + 24 + 11 + 5 + 2);
        Check.due("then", x.then(0, 5), 0);
        Check.due("then", x.then(0, 6), -2);
        Check.due("year", x.year(0, 5, 20), 0);
        Check.due("year", x.year(0, 6, 20), 20);
        Check.due("nothing happens", x.count(7), 99);
        Check.due("nothing happens", x.count(2), 0);
    }

    /** 99 that fade by 1 a week from a week on: plain behind 99 weeks more. */
    private static LanternPeople fadingFrom(int week) {
        return Check.village(ONE + "shown p a;fades=if week<" + week + " then 0 else 1;");
    }

    private static void plainIn() {
        Check.of("PLAIN IN: behind how many WEEKS (0 .. 100) a PERSON is PLAIN.");
        Check.due("99", fadingFrom(0).plainIn(0), 99);
        Check.due("100", fadingFrom(1).plainIn(0), 100);
        Check.due("101", fadingFrom(2).plainIn(0), -2);
        Check.due("now", Check.village(ONE).plainIn(0), 0);
        Check.due("without slides", Check.village("person p 0;").plainIn(0), 0);
        Check.due("1", Check.village(ONE + "shown p a;fades=99;").plainIn(0), 1);
        Check.due("never", Check.village(ONE + "shown p a;fades=0;").plainIn(0), -2);
        LanternPeople later = fadingFrom(2);
        later.weeks(1);
        Check.due("a week later", later.plainIn(0), 100);
    }

    private static void turns() {
        Check.of("TURNS; -2: not, PLAIN now; NONE: no such PERSON.");
        Check.due("99", fadingFrom(0).turns(0), 99);
        Check.due("100", fadingFrom(1).turns(0), 100);
        Check.due("101", fadingFrom(2).turns(0), -2);
        Check.due("plain now", Check.village(ONE).turns(0), -2);
        Check.due("without slides", Check.village("person p 0;").turns(0), -2);
        Check.due("1", Check.village(ONE + "shown p a;fades=99;").turns(0), 1);
        Check.due("never", Check.village(ONE + "shown p a;fades=0;").turns(0), -2);
    }

    private static void turnsToAnother() {
        Check.of("TURNS: behind how many (1 .. 100) the PICTURE of a PERSON is first another one, or none.");
        // a 10 8 6 .., b 9 9 9: in the first week.
        String two = "slide a 0 0 10;slide b 0 0 9;person p 0;shown p a;shown p b;";
        Check.due("another in 1", Check.village(two + "fades=2-2*which;").turns(0), 1);
        // a 10 9 8: as bright is not yet another.
        Check.due("another in 2", Check.village(two + "fades=1-which;").turns(0), 2);
        Check.due("plain in", Check.village(two + "fades=1-which;").plainIn(0), -2);
        // b shows; as bright as a, a is the first.
        LanternPeople back = Check.village("slide a 0 0 9;slide b 0 0 10;person p 0;shown p a;shown p b;fades=which;");
        Check.due("back to the first in 1", back.turns(0), 1);
        // Both fade by 1: a shows to the end, then none.
        Check.due("none in 10", Check.village(two).turns(0), 10);
    }

    private static void like() {
        Check.of("LIKE of a PERSON: others with their PICTURE.");
        LanternPeople all = Check.village("slide x 0 1 5;" + SIX + ALL_X);
        for (int p = 0; p < 6; p++) {
            Check.due("all others", all.like(p), 63 - (1 << p));
        }
        Check.of("LIKE (bits; PLAIN: 0); NONE: no such PERSON.");
        LanternPeople plain = Check.village("slide x 0 1 5;" + SIX);
        Check.due("plain", plain.like(0), 0);
        Check.due("without slides", Check.village(SIX).like(5), 0);
        LanternPeople one = Check.village(ONE + "shown p a;");
        Check.due("one", one.like(0), 0);
        // Like edges are not a like picture.
        Check.due("another of like edges", Check.village("slide x 0 1 5;slide y 0 1 5;person p 0;person q 0;shown p x;shown q y;").like(0), 0);
    }

    private static void lonely() {
        Check.of("LONELY: PEOPLE who JOIN with nobody, on either side, wherever they stand.");
        Check.due("nobody", new LanternPeople().lonely(), 0);
        Check.due("plain", Check.village(SIX).lonely(), 63);
        Check.due("how many", Check.village(SIX).count(17), 6);
        Check.due("one of equal edges", Check.village("slide x 3 3 5;person p 0;shown p x;").lonely(), 1);
        Check.due("all of the same", Check.village("slide x 3 3 5;" + SIX + ALL_X).lonely(), 0);
        Check.due("all apart", Check.village("slide x 3 4 5;" + SIX + ALL_X).lonely(), 63);
        // p on the right, u on the left of one another: neither is lonely, far from one another.
        LanternPeople x = Check.village("slide a 0 1 5;slide b 1 2 5;" + SIX + "shown u a;shown p b;");
        Check.due("all but two", x.lonely(), 63 - 32 - 1);
        Check.due("how many", x.count(17), 4);
    }

    private static void brightest() {
        Check.of("BRIGHTEST: what 0 who, 1 how much; -2: all are PLAIN. NONE for others.");
        Check.due("nobody", new LanternPeople().brightest(0), -2);
        Check.due("nobody", new LanternPeople().brightest(1), -2);
        Check.due("nobody", new LanternPeople().brightest(2), -1);
        Check.due("plain", Check.village(SIX).brightest(0), -2);
        Check.due("plain", Check.village(SIX).brightest(1), -2);
        LanternPeople one = Check.village("slide x 0 0 1;" + SIX + "shown u x;");
        Check.due("1 glows", one.brightest(0), 5);
        Check.due("1 glows", one.brightest(1), 1);
        LanternPeople most = Check.village("slide x 0 0 1;takes=99;" + SIX + "shown u x;shown t x;");
        Check.of("BRIGHTEST: the PERSON whose PICTURE GLOWS most, of alike ones the first; how much.");
        Check.due("the first of alike ones", most.brightest(0), 4);
        Check.due("99", most.brightest(1), 99);
        most.go(5, 0);
        Check.due("the first by number, not by seat", most.brightest(0), 4);
        LanternPeople sum = Check.village("slide x 0 0 5;slide y 0 0 5;person p 0;person q 0;shown p x;shown p y;shown q y;shown q y;");
        Check.due("not by all glows", sum.brightest(0), 1);
        Check.due("10", sum.brightest(1), 10);
    }

    private static void open() {
        Check.of("SEATS of which the PERSON and the next one do not JOIN.");
        Check.due("nobody", new LanternPeople().open(), 0);
        Check.due("one", Check.village("person p 0;").open(), 0);
        Check.due("two plain", Check.village("person p 0;person q 0;").open(), 1);
        Check.due("six plain", Check.village(SIX).open(), 31);
        Check.due("six of the same", Check.village("slide x 3 3 5;" + SIX + ALL_X).open(), 0);
        Check.due("six apart", Check.village("slide x 3 4 5;" + SIX + ALL_X).open(), 31);
        LanternPeople x = Check.village("slide x 3 3 5;" + SIX + "shown t x;shown u x;");
        Check.due("all but the last", x.open(), 15);
        x.go(5, 0);
        x.go(4, 1);
        Check.due("all but the first", x.open(), 30);
    }

    private static void share() {
        Check.of("SHARES of a PERSON: what of their GLOWS the PICTURE has, by 1,000, rounded down.");
        LanternPeople x = Check.village("slide a 0 0 2;slide b 0 0 1;slide c 0 0 1;slide d 0 0 1;slide e 0 0 1;person p 0;shown p a;");
        Check.due("all", x.share(0), 1000);
        x.show(0, 1);
        Check.due("2 of 3", x.share(0), 666);
        x.show(0, 2);
        Check.due("2 of 4", x.share(0), 500);
        x.show(0, 3);
        x.show(0, 4);
        Check.due("2 of 6", x.share(0), 333);
        LanternPeople full = Check.village("slide a 0 0 2;slide b 0 0 1;slide c 0 0 1;slide d 0 0 1;slide e 0 0 1;person p 0;takes=99;"
            + "shown p a;shown p b;shown p c;shown p d;shown p e;");
        Check.due("99 of 495", full.share(0), 200);
        Check.of("SHARES (PLAIN: 0); NONE: no such PERSON.");
        Check.due("plain", Check.village("slide a 0 0 1;person p 0;").share(0), 0);
        Check.due("without slides", Check.village("person p 0;").share(0), 0);
    }

    private static void thenEdges() {
        Check.of("IN n WEEKS (0 .. 60; with washing): the PICTURE of a PERSON; what was paid so far.");
        LanternPeople x = Check.village(ONE + "shown p a;fades=if week<59 then 0 else 99;");
        Check.due("0", x.then(0, 0), 0);
        Check.due("59", x.then(0, 59), 0);
        Check.due("60", x.then(0, 60), -2);
        Check.due("61", x.then(0, 61), -1);
        Check.due("-1", x.then(0, -1), -1);
        x.weeks(59);
        Check.due("0 in week 59", x.then(0, 0), 0);
        Check.due("1 in week 59", x.then(0, 1), -2);
        Check.due("plain", Check.village(ONE).then(0, 60), -2);
        Check.due("without slides", Check.village("person p 0;").then(0, 60), -2);
        // As the weeks then go by, by their lots.
        LanternPeople y = Check.village(SceneTest.RING + "takes=99;fades=1;washes=7;seed 9999;");
        for (int n = 0; n <= 40; n += 10) {
            LanternPeople gone = Check.village(SceneTest.RING + "takes=99;fades=1;washes=7;seed 9999;");
            gone.weeks(n);
            for (int p = 0; p < 4; p++) {
                Check.due("in " + n, y.then(p, n), gone.person(p, 1));
            }
            Check.due("paid in " + n, y.paidIn(n), gone.count(6));
        }
    }

    private static void paidInEdges() {
        Check.of("IN n WEEKS what was paid so far and by then; NONE: no such n.");
        LanternPeople x = Check.village(ONE + "shown p a;fades=0;pays=week+1;");
        Check.due("0", x.paidIn(0), 0);
        Check.due("60", x.paidIn(60), 60 * 61 / 2);
        Check.due("61", x.paidIn(61), -1);
        Check.due("-1", x.paidIn(-1), -1);
        x.weeks(10);
        Check.due("0 later", x.paidIn(0), 55);
        Check.due("1 later", x.paidIn(1), 66);
        Check.due("60 later", x.paidIn(60), 70 * 71 / 2);
        x.undo();
        Check.due("undone", x.paidIn(0), 0);
        Check.due("nobody", new LanternPeople().paidIn(60), 0);
    }

    private static void yearEdges() {
        Check.of("YEAR by s SEEDS (1 .. 20) from the text's SEED on: in how many of them a PERSON is PLAIN in n WEEKS (0 .. 60).");
        LanternPeople x = Check.village(ONE + "shown p a;fades=if week<59 then 0 else 99;");
        Check.due("59 weeks", x.year(0, 59, 20), 0);
        Check.due("60 weeks, 1 seed", x.year(0, 60, 1), 1);
        Check.due("60 weeks, 20 seeds", x.year(0, 60, 20), 20);
        Check.due("0 weeks", x.year(0, 0, 20), 0);
        Check.due("61 weeks", x.year(0, 61, 1), -1);
        Check.due("-1 weeks", x.year(0, -1, 1), -1);
        Check.due("0 seeds", x.year(0, 60, 0), -1);
        Check.due("21 seeds", x.year(0, 60, 21), -1);
        Check.due("plain now", Check.village(ONE).year(0, 0, 1), 1);
        Check.due("plain now", Check.village(ONE).year(0, 60, 20), 20);
    }

    private static void yearSeeds() {
        // One who glows 1 is plain behind a week in which they wash: LOT of seed, week 0, number 0 below 50.
        for (int seed : new int[] {0, 1, 9980, 9999}) {
            LanternPeople x = Check.village("slide a 0 0 1;person p 0;shown p a;fades=0;washes=50;seed " + seed + ";");
            int due = 0;
            for (int s = 1; s <= 20; s++) {
                due += PlainModel.lot(100, seed + s - 1, 0) < 50 ? 1 : 0;
                Check.due("seed " + seed + ", " + s + " of them", x.year(0, 1, s), due);
            }
            Check.due("the first alone is what then tells", x.year(0, 1, 1), x.then(0, 1) == -2 ? 1 : 0);
        }
    }

    private static void nothingThere() {
        Check.of("No SLIDES, no PEOPLE.");
        LanternPeople x = new LanternPeople();
        Check.due("plainIn", x.plainIn(0), -1);
        Check.due("turns", x.turns(0), -1);
        Check.due("like", x.like(0), -1);
        Check.due("share", x.share(0), -1);
        Check.due("then", x.then(0, 0), -1);
        Check.due("year", x.year(0, 0, 1), -1);
        LanternPeople slides = Check.village("slide a 0 0 1;");
        Check.due("plainIn", slides.plainIn(0), -1);
        Check.due("worth", slides.worth(60), 0);
        Check.due("slide", slides.slide(0, 3), 0);
        Check.due("pictures", slides.count(12), 0);
    }
}
