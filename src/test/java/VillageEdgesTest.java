import java.math.BigInteger;

/** Edges of promises 6 to 16 and of part II, sentence by sentence. */
public final class VillageEdgesTest {
    private static final String SIX = "person p 0;person q 1;person r 2;person s 3;person t 4;person u 5;";
    private static final String ALL_SHOWN = "shown p x;shown q x;shown r x;shown s x;shown t x;shown u x;";

    private VillageEdgesTest() { }

    public static void main(String[] args) {
        bitsOfSlides();
        whatOfPeople();
        weeksAreCountedOn();
        glowAtFirst();
        pictureOfAlikeOnes();
        noPictureJoins();
        edgesJoin();
        joinsOfAll();
        firstIfThatHolds();
        wraps();
        towardsZero();
        byZero();
        heldTo();
        variables();
        plainOnesWash();
        lots();
        lotEdges();
        thrown();
        answersOfShow();
        washed();
        faded();
        firstFadedThenWashed();
        asItBegan();
        goes();
        sixtyWeeks();
        undone();
        lastForty();
        noThingsDone();
        Check.end();
    }

    /** One slide of bright 7, one person of warm 4, and more. */
    private static LanternPeople one(String more) {
        return Check.village("slide a 1 2 7;person p 4;" + more);
    }

    private static int takes(String law) {
        return one("takes=" + law + ";").tells(0, 0, 0);
    }

    private static void bitsOfSlides() {
        Check.of("3 whose PICTURE it is (bits).");
        LanternPeople x = Check.village("slide o 5 5 1;slide x 0 5 20;" + SIX + ALL_SHOWN);
        Check.due("of all six", x.slide(1, 3), 63);
        Check.due("of nobody", x.slide(0, 3), 0);
        Check.due("left", x.slide(1, 0), 0);
        Check.due("right", x.slide(1, 1), 5);
        Check.due("bright", x.slide(1, 2), 20);
        Check.due("left", x.slide(0, 0), 5);
        Check.due("bright", x.slide(0, 2), 1);
        Check.due("of plain ones", Check.village("slide a 0 0 1;" + SIX).slide(0, 3), 0);
    }

    private static void whatOfPeople() {
        Check.of("1 the PICTURE (-2: PLAIN), 2 SEAT, 3 JOINS, 4 PAYS, 5 WASHES now, 6 all GLOWS, added.");
        LanternPeople x = Check.village("slide a 0 0 1;person p 0;person q 9;pays=9;washes=9;");
        int[] plain = {9, -2, 1, 0, 0, 9, 0};
        for (int what = 0; what <= 6; what++) {
            Check.due("person(1, " + what + ")", x.person(1, what), plain[what]);
        }
        LanternPeople full = Check.village("slide a 0 0 20;slide b 0 0 20;slide c 0 0 20;slide d 0 0 20;slide e 0 0 20;"
            + "person p 0;takes=99;shown p a;shown p b;shown p c;shown p d;shown p e;");
        Check.due("all glows", full.person(0, 6), 495);
        Check.due("picture", full.person(0, 1), 0);
        Check.due("without slides", Check.village("person p 3;").person(0, 1), -2);
        Check.due("without slides", Check.village("person p 3;").person(0, 6), 0);
    }

    private static void weeksAreCountedOn() {
        Check.of("WEEKS are counted on.");
        LanternPeople x = one("shown p a;fades=0;pays=week-400;");
        for (int i = 1; i <= 9; i++) {
            Check.due("weeks(60)", x.weeks(60), 60 * i);
        }
        Check.due("week", x.count(2), 540);
        // 0 up to week 400, then 1 .. 99, then 99 for weeks 500 .. 539.
        Check.due("paid", x.count(6), 4950 + 40 * 99);
        Check.due("fades by week", one("fades=week;").tells(0, 0, 1), 0);
    }

    private static void glowAtFirst() {
        Check.of("GLOW of a PERSON and a SLIDE: 0 .. 99 (0 at first).");
        LanternPeople x = Check.village("slide a 0 0 20;slide b 0 0 20;person p 0;person q 0;shown q b;");
        Check.due("glow", x.glow(0, 0), 0);
        Check.due("glow", x.glow(0, 1), 0);
        Check.due("glow", x.glow(1, 0), 0);
        Check.due("glow", x.glow(1, 1), 20);
        for (int i = 0; i < 6; i++) {
            x.show(1, 1);
        }
        Check.due("glow", x.glow(1, 1), 99);
    }

    private static void pictureOfAlikeOnes() {
        Check.of("the SLIDE that GLOWS most on them, of alike ones the first; PLAIN: none GLOWS.");
        String five = "slide a 0 0 5;slide b 0 0 5;slide c 0 0 5;slide d 0 0 5;slide e 0 0 5;person p 0;fades=0;";
        LanternPeople x = Check.village(five + "shown p e;shown p d;shown p c;");
        Check.due("of three", x.person(0, 1), 2);
        Check.due("b, as bright", x.show(0, 1), 1);
        Check.due("e is brighter", x.show(0, 4), 4);
        Check.due("b is as bright", x.show(0, 1), 1);
        LanternPeople dim = Check.village(five + "takes=1;shown p e;");
        Check.due("1 glows", dim.person(0, 1), 4);
        Check.due("washed", dim.wash(0), 0);
        Check.due("none glows", dim.person(0, 1), -2);
        LanternPeople top = Check.village(five + "takes=if glow<98 then 98 else 1;shown p a;shown p b;shown p b;");
        Check.due("99 is more than 98", top.person(0, 1), 1);
        Check.due("both 99", top.show(0, 0), 0);
    }

    private static void noPictureJoins() {
        Check.of("if none is PLAIN and the RIGHT edge of the first one's PICTURE is as the LEFT edge of the other one's.");
        LanternPeople x = Check.village("slide a 0 0 5;person p 0;person q 0;shown p a;");
        Check.due("to a plain one", x.join(0, 1), 0);
        Check.due("from a plain one", x.join(1, 0), 0);
        Check.due("joins", x.count(3), 0);
        x.show(1, 0);
        Check.due("of one sort", x.join(0, 1), 1);
        Check.due("of one sort", x.join(1, 0), 1);
        Check.due("two plain ones", Check.village("slide a 0 0 5;person p 0;person q 0;").join(0, 1), 0);
        Check.due("two without slides", Check.village("person p 0;person q 0;").join(0, 1), 0);
    }

    private static void edgesJoin() {
        for (int right = 0; right <= 5; right++) {
            for (int left = 0; left <= 5; left++) {
                LanternPeople x = Check.village("slide a 0 " + right + " 5;slide b " + left + " 5 5;person p 0;person q 0;shown p a;shown q b;");
                Check.due("right " + right + ", left " + left, x.join(0, 1), right == left ? 1 : 0);
                Check.due("back", x.join(1, 0), 0);
                Check.due("beside", x.person(0, 3), right == left ? 1 : 0);
            }
        }
    }

    private static void joinsOfAll() {
        Check.of("with how many of those beside them they JOIN, as they stand (0 .. 2).");
        LanternPeople x = Check.village("slide x 3 3 5;" + SIX + ALL_SHOWN);
        int[] due = {1, 2, 2, 2, 2, 1};
        for (int p = 0; p < 6; p++) {
            Check.due("joins of " + p, x.person(p, 3), due[p]);
        }
        Check.due("in the row", x.count(3), 5);
        Check.due("twice", x.count(16), 30);
        Check.due("how many two", x.count(14), 30);
        x.go(0, 2);
        Check.due("of the first now", x.person(1, 3), 1);
        Check.due("of the third now", x.person(0, 3), 2);
        Check.due("one alone", Check.village("slide x 3 3 5;person p 0;shown p x;").person(0, 3), 0);
    }

    private static void firstIfThatHolds() {
        Check.of("LAWS: the E of the first if that holds (one less than the other), else the last one;");
        Check.due("1 < 1", takes("if 1<1 then 5 else 6"), 6);
        Check.due("1 < 2", takes("if 1<2 then 5 else 6"), 5);
        Check.due("2 < 1", takes("if 2<1 then 5 else 6"), 6);
        Check.due("-1 < 0", takes("if 0-1<0 then 5 else 6"), 5);
        for (int first = 1; first <= 5; first++) {
            StringBuilder law = new StringBuilder();
            for (int i = 1; i <= 4; i++) {
                law.append("if ").append(i >= first ? 1 : 2).append("<2 then 1").append(i).append(" else ");
            }
            Check.due("the " + first + "th holds", takes(law + "15"), 10 + first);
        }
    }

    private static void wraps() {
        Check.of("ints of 32 bits that wrap");
        // 4096 * 4096 * 128 is 2 to the 31, the lowest.
        String low = "4096*4096*128";
        Check.due("lowest", takes("if " + low + "<0 then 1 else 2"), 1);
        Check.due("lowest less 1", takes(low + "-1"), 99);
        Check.due("lowest turned", takes("if 0-" + low + "<0 then 1 else 2"), 1);
        Check.due("highest and 1 more", takes("if (" + low + "-1)+1<0 then 1 else 2"), 1);
        Check.due("twice", takes(low + "*2+5"), 5);
        Check.due("twice by adding", takes(low + "+" + low + "+5"), 5);
        Check.due("lowest < 1", takes("if " + low + "<1 then 1 else 2"), 1);
        Check.due("1 < lowest", takes("if 1<" + low + " then 1 else 2"), 2);
        Check.due("highest < lowest", takes("if " + low + "-1<" + low + " then 1 else 2"), 2);
        // 9999 to the third wraps to -1027349969, to the fourth to 1089432001.
        Check.due("third", takes("0-9999*9999*9999/1000/1000/100"), 10);
        Check.due("fourth", takes("9999*9999*9999*9999/1000/1000/100"), 10);
    }

    private static void towardsZero() {
        Check.of("/ rounded towards 0;");
        Check.due("7/2", takes("7/2"), 3);
        Check.due("-7/2", takes("10+(0-7)/2"), 7);
        Check.due("7/-2", takes("10+7/(0-2)"), 7);
        Check.due("-7/-2", takes("10+(0-7)/(0-2)"), 13);
        Check.due("-1/2", takes("10+(0-1)/2"), 10);
        Check.due("1/2", takes("10+1/2"), 10);
        Check.due("0/7", takes("10+0/7"), 10);
        // The lowest by -1 wraps to itself.
        Check.due("lowest by -1", takes("if 4096*4096*128/(0-1)<0 then 1 else 2"), 1);
        Check.due("lowest by -1", takes("4096*4096*128/(0-1)-1"), 99);
    }

    private static void byZero() {
        Check.of("a LAW in which something that is looked at is divided by 0 is 0.");
        Check.due("5/0", takes("5/0"), 0);
        Check.due("0/0", takes("0/0"), 0);
        Check.due("and more", takes("50+5/0"), 0);
        Check.due("times 0", takes("50+0*(5/0)"), 0);
        Check.due("5/(0/3)", takes("50+5/(0/3)"), 0);
        Check.due("on the left of <", takes("if 5/0<1 then 50 else 60"), 0);
        Check.due("on the right of <", takes("if 1<5/0 then 50 else 60"), 0);
        Check.due("in what is taken", takes("if 1<2 then 50/0 else 60"), 0);
        Check.due("in what is not taken", takes("if 2<1 then 50/0 else 60"), 60);
        Check.due("behind what is taken", takes("if 1<2 then 50 else 60/0"), 50);
        Check.due("in an if behind it", takes("if 1<2 then 50 else if 1/0<2 then 7 else 60"), 50);
        Check.due("in an if ahead of it", takes("if 1/0<0 then 50 else if 1<2 then 7 else 60"), 0);
        LanternPeople x = one("shown p a;takes=50/glow;fades=50/week;pays=50/seat;washes=50/which;");
        Check.due("takes, thrown at first", x.glow(0, 0), 0);
        Check.due("takes", x.tells(0, 0, 0), 0);
        Check.due("fades", x.tells(0, 0, 1), 0);
        Check.due("washes", x.person(0, 5), 0);
        LanternPeople y = one("shown p a;pays=50/seat;washes=50/which;fades=50/week;");
        Check.due("pays", y.person(0, 4), 0);
        Check.due("washes", y.person(0, 5), 0);
        y.weeks(1);
        Check.due("nothing faded", y.glow(0, 0), 7);
        Check.due("fades", y.tells(0, 0, 1), 50);
    }

    private static void heldTo() {
        Check.of("TAKES, FADES, held to 0 .. 99; PAYS (of the PICTURE; PLAIN: 0), to 0 .. 99; WASHES");
        String[] laws = {"0-9999", "0-1", "0", "1", "98", "99", "100", "101", "9999", "9999*9999"};
        int[] due = {0, 0, 0, 1, 98, 99, 99, 99, 99, 99};
        int[] washes = {0, 0, 0, 1, 98, 99, 100, 100, 100, 100};
        for (int i = 0; i < laws.length; i++) {
            LanternPeople x = Check.village("slide a 0 0 5;person p 0;person q 0;takes=bright;shown p a;fades=" + laws[i]
                + ";pays=" + laws[i] + ";washes=" + laws[i] + ";");
            Check.due("takes " + laws[i], takes(laws[i]), due[i]);
            Check.due("fades " + laws[i], x.tells(0, 0, 1), due[i]);
            Check.due("pays " + laws[i], x.person(0, 4), due[i]);
            Check.due("pays of a plain one", x.person(1, 4), 0);
            Check.due("washes " + laws[i], x.person(0, 5), washes[i]);
            Check.due("washes of a plain one", x.person(1, 5), washes[i]);
        }
    }

    private static LanternPeople lastOfAll(String laws) {
        return Check.village("slide a 0 0 1;slide b 0 0 2;slide c 0 0 3;slide d 0 0 4;slide e 0 0 20;"
            + "person p 0;person q 1;person r 2;person s 3;person t 4;person u 9;" + laws);
    }

    private static void variables() {
        Check.of("Of a PERSON and a SLIDE: glow; warm; bright; week; seat; joins; which: the SLIDE's number; "
            + "others: GLOWS of all other SLIDES on them, added; slides: how many there are.");
        String[] vars = {"glow", "warm", "bright", "week", "seat", "joins", "which", "others", "slides"};
        int[] first = {0, 0, 1, 0, 0, 0, 0, 0, 5};
        int[] last = {0, 9, 20, 0, 5, 0, 4, 0, 5};
        for (int i = 0; i < vars.length; i++) {
            LanternPeople x = lastOfAll("fades=" + vars[i] + ";takes=" + vars[i] + ";");
            Check.due(vars[i] + " of the first", x.tells(0, 0, 1), first[i]);
            Check.due(vars[i] + " of the last", x.tells(5, 4, 1), last[i]);
            Check.due(vars[i] + " of the last", x.tells(5, 4, 0), last[i]);
        }
        // All five glow 99: the others of each are 396, of one that does not glow 396 and no more.
        String shown = "shown u a;shown u b;shown u c;shown u d;";
        LanternPeople x = lastOfAll("takes=99;" + shown + "fades=others/4;");
        Check.due("others of one of four", x.tells(5, 0, 1), 297 / 4);
        Check.due("others of the fifth", x.tells(5, 4, 1), 99);
        x.show(5, 4);
        Check.due("others of one of five", x.tells(5, 0, 1), 99);
        LanternPeople glow = lastOfAll("takes=99;shown u e;shown t a;shown s a;pays=glow-joins-which;");
        Check.due("glow of 99, which 4, joins 1", glow.person(5, 4), 99 - 1 - 4);
        Check.due("glow of 99, which 0, joins 2", glow.person(4, 4), 97);
    }

    private static void plainOnesWash() {
        Check.of("WASHES (of the PICTURE; PLAIN: glow, bright, which 0, others all GLOWS), to 0 .. 100.");
        String[] vars = {"glow", "bright", "which", "others"};
        for (String var : vars) {
            LanternPeople x = lastOfAll("washes=50+" + var + ";");
            Check.due(var + " of a plain one", x.person(5, 5), 50);
            Check.due("by 0", lastOfAll("washes=50/" + var + ";").person(5, 5), 0);
        }
        LanternPeople x = lastOfAll("washes=10*slides+warm+seat+joins+week;");
        Check.due("the rest as of others", x.person(5, 5), 50 + 9 + 5);
        x.weeks(3);
        Check.due("the rest as of others", x.person(5, 5), 50 + 9 + 5 + 3);
        Check.due("without slides", Check.village("person p 7;washes=slides+warm+which+bright;").person(0, 5), 7);
    }

    /** LOT as the document tells it, in numbers without an end. */
    private static int lot(int seed, int which) {
        BigInteger all = BigInteger.ONE.shiftLeft(32);
        BigInteger h = BigInteger.valueOf(seed);
        for (int it : new int[] {205, which}) {
            h = h.xor(BigInteger.valueOf(it)).multiply(BigInteger.valueOf(1103515245)).add(BigInteger.valueOf(12345)).mod(all);
            h = h.xor(h.shiftRight(15));
        }
        return h.shiftRight(1).mod(BigInteger.valueOf(100)).intValue();
    }

    private static void lots() {
        Check.of("LOT n of a SEED and a which: h is the SEED; for each of 205, which: h becomes (h and it, each bit of which is in just one) "
            + "times 1103515245 and 12345 more, then h and h moved 15 bits down (zeros come in), likewise; "
            + "the rest of h, moved 1 bit down likewise, by n (32 bits that wrap).");
        Check.due("of 0 and 0", lot(0, 0), 35);
        Check.due("of 9999 and 805", lot(9999, 805), 7);
        Check.of("LOT 100 of the SEED and 8 * the week and their number is less than WASHES.");
        for (int seed : new int[] {0, 1, 205, 4096, 9998, 9999}) {
            LanternPeople x = Check.village(SIX + "washes=10+15*seat;seed " + seed + ";");
            for (int week = 0; week < 100; week++) {
                int due = 0;
                for (int p = 0; p < 6; p++) {
                    due |= lot(seed, 8 * week + p) < 10 + 15 * p ? 1 << p : 0;
                }
                Check.due("seed " + seed + ", week " + week, x.count(13), due);
                x.weeks(1);
            }
        }
    }

    private static void lotEdges() {
        boolean lowest = false;
        boolean highest = false;
        for (int seed = 0; seed <= 9999 && !(lowest && highest); seed++) {
            int lot = lot(seed, 0);
            if (lot == 0 && !lowest || lot == 99 && !highest) {
                lowest |= lot == 0;
                highest |= lot == 99;
                Check.due("washes as LOT", one("shown p a;seed " + seed + ";washes=" + lot + ";").count(13), 0);
                Check.due("washes 1 more", one("shown p a;seed " + seed + ";washes=" + (lot + 1) + ";").count(13), 1);
                LanternPeople x = one("shown p a;fades=0;seed " + seed + ";washes=" + lot + ";");
                x.weeks(1);
                Check.due("not washed", x.glow(0, 0), 7);
                LanternPeople y = one("shown p a;fades=0;seed " + seed + ";washes=" + (lot + 1) + ";");
                y.weeks(1);
                Check.due("washed", y.glow(0, 0), 3);
            }
        }
        Check.due("both are there", lowest && highest, true);
    }

    private static void thrown() {
        Check.of("A SLIDE is THROWN upon a PERSON: its GLOW there is TAKES more (99 at most).");
        int[][] due = {{0, 0}, {1, 2}, {49, 98}, {50, 99}, {51, 99}, {98, 99}, {99, 99}};
        for (int[] one : due) {
            LanternPeople x = one("takes=" + one[0] + ";shown p a;");
            Check.due("at first", x.glow(0, 0), one[0]);
            x.show(0, 0);
            Check.due("by hand", x.glow(0, 0), one[1]);
        }
        LanternPeople full = one("takes=99;shown p a;shown p a;");
        Check.due("at 99", full.show(0, 0), 0);
        Check.due("at 99", full.glow(0, 0), 99);
        Check.due("a thing done all the same", full.count(9), 1);
        // By how it is then: what was thrown ahead counts.
        LanternPeople grows = one("takes=glow+1;shown p a;shown p a;shown p a;");
        Check.due("0, 1, 3, 7", grows.glow(0, 0), 7);
        Check.due("week 0", one("takes=week+5;shown p a;").glow(0, 0), 5);
    }

    private static void answersOfShow() {
        Check.of("THROWN: the PICTURE of the PERSON then (-2: PLAIN);");
        LanternPeople x = Check.village("slide a 0 0 5;slide b 0 0 6;slide c 0 0 1;person p 0;takes=if which<2 then bright else 0;");
        Check.due("plain still", x.show(0, 2), -2);
        Check.due("a", x.show(0, 0), 0);
        Check.due("a still", x.show(0, 2), 0);
        Check.due("b", x.show(0, 1), 1);
        Check.due("a again", x.show(0, 0), 0);
    }

    private static void washed() {
        Check.of("One WASHES: each GLOW on them is half, rounded down.");
        int[] halves = {49, 24, 12, 6, 3, 1, 0};
        LanternPeople x = Check.village("slide a 0 0 1;slide b 0 0 1;person p 0;person q 0;takes=99;shown p a;shown p b;shown q b;");
        for (int half : halves) {
            Check.due("wash", x.wash(0), 2 * half);
            Check.due("glow", x.glow(0, 0), half);
            Check.due("glow", x.glow(0, 1), half);
        }
        Check.of("One WASHES: all GLOWS on them then, added; NONE, and nothing happens: PLAIN, no such PERSON.");
        Check.due("plain", x.wash(0), -1);
        Check.due("things", x.count(9), 7);
        Check.due("the other", x.glow(1, 1), 99);
        LanternPeople both = Check.village("slide a 0 0 3;slide b 0 0 1;person p 0;shown p a;shown p b;");
        Check.due("1 and 0", both.wash(0), 1);
    }

    private static void faded() {
        Check.of("each GLOW is FADES of that PERSON and SLIDE less (0 at least);");
        int[][] due = {{0, 7}, {1, 6}, {6, 1}, {7, 0}, {8, 0}, {99, 0}};
        for (int[] one : due) {
            LanternPeople x = one("shown p a;fades=" + one[0] + ";");
            Check.due("weeks", x.weeks(1), 1);
            Check.due("glow", x.glow(0, 0), one[1]);
        }
        LanternPeople own = lastOfAll("takes=20;shown p a;shown p b;shown u a;shown u e;fades=which+warm;");
        own.weeks(1);
        Check.due("p a", own.glow(0, 0), 20);
        Check.due("p b", own.glow(0, 1), 19);
        Check.due("u a", own.glow(5, 0), 11);
        Check.due("u e", own.glow(5, 4), 7);
        Check.due("u b", own.glow(5, 1), 0);
    }

    private static void firstFadedThenWashed() {
        Check.of("then each PERSON WASHES for whom LOT 100");
        LanternPeople x = Check.village("slide a 0 0 20;person p 0;shown p a;fades=3;washes=100;");
        x.weeks(1);
        Check.due("20, 17, 8", x.glow(0, 0), 8);
        x.weeks(1);
        Check.due("8, 5, 2", x.glow(0, 0), 2);
        x.weeks(1);
        Check.due("2, 0, 0", x.glow(0, 0), 0);
    }

    private static void asItBegan() {
        Check.of("A WEEK, all by how it was as it began: PAYS of all are paid;");
        // Paid by what glowed and joined then; faded by the joins and the week of then; washed by the glow of then.
        LanternPeople x = Check.village("slide a 0 0 9;person p 0;person q 0;shown p a;shown q a;"
            + "pays=10*joins+glow+week;fades=9*joins+week;washes=if glow<9 then 0 else 100;");
        x.weeks(1);
        Check.due("paid", x.count(6), 38);
        Check.due("both faded", x.count(7), 0);
        LanternPeople y = Check.village("slide a 0 0 9;person p 0;person q 0;shown p a;shown q a;"
            + "fades=1;washes=if glow<9 then 0 else 100;");
        y.weeks(2);
        Check.due("washed once", y.glow(0, 0), 3);
        LanternPeople z = Check.village("slide a 0 0 4;person p 0;person q 0;shown p a;shown q a;"
            + "fades=if seat<1 then 4 else 0;washes=100*joins;");
        z.weeks(1);
        Check.due("plain", z.glow(0, 0), 0);
        Check.due("washed by the join of then", z.glow(1, 0), 2);
        z.weeks(1);
        Check.due("no join now", z.glow(1, 0), 2);
        Check.of("It is the next week.");
        Check.due("week", z.count(2), 2);
    }

    private static void row(LanternPeople x, int... who) {
        for (int seat = 0; seat < who.length; seat++) {
            Check.due("at seat " + seat, x.seat(seat), who[seat]);
            Check.due("seat of " + who[seat], x.person(who[seat], 2), seat);
        }
    }

    private static void goes() {
        Check.of("one goes to another SEAT (the others stay in their order);");
        LanternPeople x = Check.village(SIX);
        Check.due("first to last", x.go(0, 5), true);
        row(x, 1, 2, 3, 4, 5, 0);
        Check.due("last to first", x.go(0, 0), true);
        row(x, 0, 1, 2, 3, 4, 5);
        Check.due("last to first", x.go(5, 0), true);
        row(x, 5, 0, 1, 2, 3, 4);
        Check.due("one on", x.go(5, 1), true);
        row(x, 0, 5, 1, 2, 3, 4);
        Check.due("one back", x.go(5, 0), true);
        row(x, 5, 0, 1, 2, 3, 4);
        Check.due("in between", x.go(0, 4), true);
        row(x, 5, 1, 2, 3, 0, 4);
        Check.due("theirs", x.go(0, 4), false);
        Check.due("things", x.count(9), 6);
        LanternPeople two = Check.village("person p 0;person q 0;");
        Check.due("of two", two.go(0, 1), true);
        row(two, 1, 0);
    }

    private static void sixtyWeeks() {
        Check.of("n WEEKS (0 .. 60; 0 is no thing done) go by: which it is;");
        LanternPeople x = one("shown p a;");
        Check.due("weeks(0)", x.weeks(0), 0);
        Check.due("no thing done", x.count(9), 0);
        Check.due("undo", x.undo(), false);
        Check.due("weeks(60)", x.weeks(60), 60);
        Check.due("one thing done", x.count(9), 1);
        Check.due("weeks(0)", x.weeks(0), 60);
        Check.due("weeks(61)", x.weeks(61), -1);
        Check.due("one thing done", x.count(9), 1);
        Check.due("undo", x.undo(), true);
        Check.due("week", x.count(2), 0);
        Check.due("glow", x.glow(0, 0), 7);
        Check.due("of nobody", new LanternPeople().weeks(1), 1);
        Check.due("as 60 times one", Check.village(SceneTest.RING + "washes=30;").weeks(60), 60);
        LanternPeople once = Check.village(SceneTest.RING + "takes=99;fades=1;washes=5;seed 3;");
        LanternPeople often = Check.village(SceneTest.RING + "takes=99;fades=1;washes=5;seed 3;");
        once.weeks(20);
        for (int i = 0; i < 20; i++) {
            often.weeks(1);
        }
        Check.due("glows", once.count(7), often.count(7));
        Check.due("paid", once.count(6), often.count(6));
    }

    private static void undone() {
        Check.of("The last thing done (show, wash, go, weeks) is undone: true; false: there is none");
        LanternPeople x = Check.village(SceneTest.RING);
        Check.due("none", x.undo(), false);
        Twins.Call[] things = {y -> y.show(3, 0), y -> y.wash(0), y -> y.go(0, 3) ? 1 : 0, y -> y.weeks(60)};
        for (Twins.Call thing : things) {
            Twins.unchanged("a thing done and undone", y -> Check.read(y, SceneTest.RING), y -> {
                thing.on(y);
                Check.due("one thing", y.count(9), 1);
                return y.undo() ? 1 : 0;
            }, 1);
        }
    }

    private static void lastForty() {
        Check.of("false: there is none (the last 40 can be).");
        for (int done = 38; done <= 44; done++) {
            LanternPeople x = one("shown p a;");
            for (int i = 0; i < done; i++) {
                x.weeks(1);
            }
            int can = Math.min(done, 40);
            Check.due("things", x.count(9), can);
            for (int i = 0; i < can; i++) {
                Check.due("undo", x.undo(), true);
                Check.due("week", x.count(2), done - 1 - i);
                Check.due("things", x.count(9), can - 1 - i);
            }
            Check.due("none", x.undo(), false);
            Check.due("week", x.count(2), done - can);
            x.weeks(2);
            Check.due("one again", x.count(9), 1);
            Check.due("undo", x.undo(), true);
            Check.due("week", x.count(2), done - can);
        }
    }

    private static void noThingsDone() {
        Check.of("The last thing done (show, wash, go, weeks)");
        LanternPeople x = Check.village(SceneTest.RING);
        x.weeks(1);
        x.tell(0, 0, true);
        x.forget();
        x.hold(0);
        x.feed(0, 0, 0, 0, 0);
        x.back(20);
        x.weeks(0);
        x.wash(3);
        x.go(0, 0);
        x.show(9, 9);
        Check.due("fault", Check.read(x, "."), 1);
        Check.due("things", x.count(9), 1);
        Check.due("undo", x.undo(), true);
        Check.due("week", x.count(2), 0);
        Check.due("an undo is none", x.undo(), false);
    }
}
