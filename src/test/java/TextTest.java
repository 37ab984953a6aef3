/** Promises 1 to 5, the grammar and the faults of a text. */
public final class TextTest {
    private static final String SLIDES = "slide a 0 1 2;slide b 1 2 3;slide c 2 3 4;slide d 3 4 5;slide e 4 5 6;";
    private static final String PEOPLE = "person p 0;person q 1;person r 2;person s 3;person t 4;person u 5;";

    private TextTest() { }

    public static void main(String[] args) {
        newObject();
        feed();
        back();
        read();
        place();
        tokens();
        syntax();
        room();
        late();
        laws();
        faultChangesNothing();
        faultLeavesNothing();
        Check.end();
    }

    private static void newObject() {
        LanternPeople x = new LanternPeople();
        for (int what = 0; what <= 17; what++) {
            Check.due("new count(" + what + ")", x.count(what), 0);
        }
        Check.due("new place()", x.place(), -1);
        Check.due("new undo()", x.undo(), false);
        Check.due("new restore(0)", x.restore(0), false);
        Check.due("NONE", LanternPeople.NONE, -1);
    }

    private static void feed() {
        LanternPeople x = new LanternPeople();
        // "seed 1;seed 2;seed 3" and then ";" with blanks: the highest byte of each int comes first.
        Check.due("feed", x.feed(0x73656564, 0x20313b73, 0x65656420, 0x323b7365, 0x65642033), 20);
        Check.due("feed", x.feed(0x3b200a0d, 0x09202020, 0x20202020, 0x20202020, 0x20202020), 40);
        Check.due("count(8)", x.count(8), 40);
        Check.due("read()", x.read(), 0);
        Check.due("count(8)", x.count(8), 0);
        for (int i = 1; i <= 100; i++) {
            Check.due("feed " + i, x.feed(0, -1, 0, -1, 0), 20 * i);
        }
        Check.due("feed beyond", x.feed(1, 2, 3, 4, 5), -1);
        Check.due("count(8)", x.count(8), 2000);
        Check.due("back(19)", x.back(19), 1981);
        Check.due("feed beyond", x.feed(1, 2, 3, 4, 5), -1);
        Check.due("back(1)", x.back(1), 1980);
        Check.due("feed", x.feed(1, 2, 3, 4, 5), 2000);
    }

    private static void back() {
        LanternPeople x = new LanternPeople();
        Check.due("back(0)", x.back(0), 0);
        Check.due("back(1)", x.back(1), -1);
        Check.due("back(-1)", x.back(-1), -1);
        Check.due("back(min)", x.back(Integer.MIN_VALUE), -1);
        Check.feed(x, Check.bytes("person p 1;xxxxxxxxx"));
        Check.due("back(21)", x.back(21), -1);
        Check.due("back(-3)", x.back(-3), -1);
        Check.due("back(9)", x.back(9), 11);
        Check.due("read()", x.read(), 0);
        Check.due("count(1)", x.count(1), 1);
        Check.feed(x, Check.bytes("12345678901234567890"));
        Check.due("back(20)", x.back(20), 0);
    }

    private static void read() {
        LanternPeople x = Check.village(SLIDES + PEOPLE + "shown p a;seed 5;");
        Check.due("count(0)", x.count(0), 5);
        Check.due("count(1)", x.count(1), 6);
        Check.due("show", x.show(1, 1), 1);
        Check.due("weeks(1)", x.weeks(1), 1);
        Check.due("tell", x.tell(0, 0, true), 0);
        Check.due("hold", x.hold(2), true);
        Check.due("count(9)", x.count(9), 2);
        Check.due("read of another", Check.read(x, "slide z 5 5 20;person y 9;"), 0);
        Check.due("week", x.count(2), 0);
        Check.due("paid", x.count(6), 0);
        Check.due("things", x.count(9), 0);
        Check.due("told", x.count(10), 0);
        Check.due("slots", x.count(11), 0);
        Check.due("restore", x.restore(2), false);
        Check.due("undo", x.undo(), false);
        Check.due("slides", x.count(0), 1);
        Check.due("people", x.count(1), 1);
        Check.due("glow", x.glow(0, 0), 0);
        Check.due("read of nothing", x.read(), 0);
        Check.due("slides", x.count(0), 0);
        Check.due("people", x.count(1), 0);
    }

    private static void place() {
        LanternPeople x = new LanternPeople();
        Check.due("fault", Check.read(x, " seed;"), 1);
        Check.due("place()", x.place(), 5);
        Check.due("place() again", x.place(), 5);
        Check.due("no fault", Check.read(x, "seed 1;"), 0);
        Check.due("place()", x.place(), -1);
        Check.due("end of text", Check.read(x, "seed 1 "), 1);
        Check.due("place()", x.place(), 7);
    }

    private static void tokens() {
        Check.village("slide abcdefgh1 2 3;person i0009;seed0;");
        Check.village("\n\tslide\ra 0 0 1 ;\r\n");
        // A word goes on into a name, and slide into slides, if letters follow.
        Check.village("slide slider 0 0 1;person iff 1;shown iff slider;fades=slides;");
        Check.fault("slides a 0 0 1;", 1, 0);
        Check.fault("slide abcdefghi 0 0 1;", 1, 6);
        Check.fault("slide a 0 00000 1;", 1, 10);
        Check.fault("slide a 0 0000 1;", 0, -1);
        Check.fault("seed 12345;", 1, 5);
        Check.fault("slide glow 0 0 1;", 1, 6);
        Check.fault("slide A 0 0 1;", 1, 6);
        Check.fault("seed 1.;", 1, 6);
        Check.fault("seed 1;\u00ff", 1, 7);
        Check.fault("seed 1;\u0000", 1, 7);
        Check.fault("seed 1;\u000b", 1, 7);
        Check.fault("pays=1>2;", 1, 6);
        Check.fault("seed -1;", 1, 5);
    }

    private static void syntax() {
        Check.fault("", 0, -1);
        Check.fault("   ", 0, -1);
        Check.fault(";", 1, 0);
        Check.fault("seed 1;;", 1, 7);
        Check.fault("seed 1", 1, 6);
        Check.fault("seed 1 seed", 1, 7);
        Check.fault("glow", 1, 0);
        Check.fault("if", 1, 0);
        Check.fault("name", 1, 0);
        Check.fault("slide a 0 0;", 1, 11);
        Check.fault("slide 1 a 0 0;", 1, 6);
        Check.fault("slide a b", 1, 8);
        Check.fault("person p;", 1, 8);
        Check.fault("person p 1 2;", 1, 11);
        Check.fault("shown p;", 1, 7);
        Check.fault("shown p 1;", 1, 8);
        Check.fault("takes 1;", 1, 6);
        Check.fault("takes=;", 1, 6);
        Check.fault("takes=1+;", 1, 8);
        Check.fault("takes=+1;", 1, 6);
        Check.fault("takes=-1;", 1, 6);
        Check.fault("takes=1 1;", 1, 8);
        Check.fault("takes=name;", 1, 6);
        Check.fault("takes=(1;", 1, 8);
        Check.fault("takes=(1", 1, 8);
        Check.fault("takes=1);", 1, 7);
        Check.fault("takes=();", 1, 7);
        Check.fault("takes=(1<2);", 1, 8);
        Check.fault("takes=1<2;", 1, 7);
        Check.fault("takes=if 1 then 2 else 3;", 1, 11);
        Check.fault("takes=if 1<2 else 3;", 1, 13);
        Check.fault("takes=if 1<2<3 then 2 else 3;", 1, 12);
        Check.fault("takes=if 1<2 then 3;", 1, 19);
        Check.fault("takes=if 1<2 then if 1<2 then 3 else 4 else 5;", 1, 18);
        Check.fault("takes=1+if 1<2 then 3 else 4;", 1, 8);
        Check.fault("takes=(if 1<2 then 3 else 4);", 1, 7);
        Check.fault("takes=if 1<2 then 3 else", 1, 24);
        Check.fault("takes=if (1<2) then 3 else 4;", 1, 11);
    }

    private static void room() {
        Check.fault(SLIDES + "seed 1;", 0, -1);
        Check.fault(SLIDES + " slide f 0 0 1;", 2, SLIDES.length() + 1);
        Check.fault(SLIDES + "slide", 2, SLIDES.length());
        Check.fault(PEOPLE + "person v 0;", 2, PEOPLE.length());
        String two = "slide a 0 0 1;person p 1;";
        Check.fault(two + Check.times("shown p a;", 20), 0, -1);
        Check.fault(two + Check.times("shown p a;", 20) + "shown p a;", 2, two.length() + 200);
        Check.fault("takes=" + Check.times("if 1<0 then 2 else ", 4) + "3;", 0, -1);
        Check.fault("takes=" + Check.times("if 1<0 then 2 else ", 5) + "3;", 2, 6 + 4 * 19);
        Check.fault("takes=3;" + Check.times("pays=" + Check.times("if 1<0 then 2 else ", 4) + "3;", 2), 0, -1);
        Check.fault("takes=((((((1))))));", 0, -1);
        Check.fault("takes=(((((((1)))))));", 2, 12);
        Check.fault("takes=((((((1))))))*((((((2))))));", 0, -1);
        Check.fault("takes=((((((1)+(2))))));", 0, -1);
        Check.fault("takes=((((((1+(2)))))));", 2, 14);
        // 400 tokens: 133 seeds, a last one without its end.
        String many = Check.times("seed 1;", 133);
        Check.fault(many, 0, -1);
        Check.fault(many + "seed", 1, many.length() + 4);
        Check.fault(many + "seed 1", 2, many.length() + 5);
        Check.fault(many + "seed ;", 1, many.length() + 5);
        Check.fault("takes=1" + Check.times("+1", 198) + ";", 0, -1);
        Check.fault("takes=1" + Check.times("+1", 198) + ";fades", 2, 7 + 396 + 1);
        Check.fault("takes=1" + Check.times("+1", 198) + "+", 1, 7 + 396 + 1);
        Check.fault("takes=1" + Check.times("+1", 199), 2, 7 + 396 + 1);
        Check.fault("takes=1" + Check.times("+1", 198) + "+(", 2, 7 + 396 + 1);
        Check.fault("takes=(1" + Check.times("+1", 198) + ")", 2, 8 + 396);
        Check.fault("takes=1" + Check.times("+1", 198) + ";;", 1, 7 + 396 + 1);
        // The first by its place, whatever comes behind it.
        Check.fault(SLIDES + "slide f 0 0 1 1 1", 2, SLIDES.length());
        Check.fault("seed x;" + SLIDES + "slide f 0 0 1;", 1, 5);
        Check.fault("slide a 9 9 9;" + Check.times("seed 1;", 133), 2, 14 + 7 * 131 + 5);
    }

    private static void late() {
        Check.fault("slide a 0 0 1;slide a 0 0 1;", 3, 20);
        Check.fault("slide a 0 0 1;person a 1;", 3, 21);
        Check.fault("person a 1;person a 1;", 3, 18);
        Check.fault("person a 1;slide a 9 9 99;", 3, 17);
        Check.fault("slide a 0 0 1;person p 1;shown a p;", 4, 31);
        Check.fault("slide a 0 0 1;person p 1;shown p q;", 4, 33);
        Check.fault("slide a 0 0 1;shown p a;person p 1;", 4, 20);
        Check.fault("person p 1;shown p a;slide a 0 0 1;", 4, 19);
        Check.fault("slide a 6 0 1;", 5, 8);
        Check.fault("slide a 5 6 1;", 5, 10);
        Check.fault("slide a 0 5 0;", 5, 12);
        Check.fault("slide a 0 5 21;", 5, 12);
        Check.fault("slide a 5 5 20;", 0, -1);
        Check.fault("person p 10;", 5, 9);
        Check.fault("person p 0009;", 0, -1);
        Check.fault("seed 9999;", 0, -1);
        Check.fault("takes=9999;", 0, -1);
        // The first by its place of these; one of syntax or room comes ahead of all of them.
        Check.fault("slide a 0 9 0;slide a 0 0 1;", 5, 10);
        Check.fault("shown p a;slide a 9 0 1;", 4, 6);
        Check.fault("slide a 9 0 1;seed", 1, 18);
        Check.fault("slide a 9 0 1;takes=(((((((1)))))));", 2, 26);
    }

    private static int takes(String law) {
        return Check.village("slide a 1 2 7;slide b 0 0 5;person p 4;person q 8;takes=" + law + ";").tells(1, 1, 0);
    }

    private static void laws() {
        Check.due("as not told", Check.village("slide a 1 2 7;person p 4;").tells(0, 0, 0), 7);
        Check.due("fades as not told", Check.village("slide a 1 2 7;person p 4;").tells(0, 0, 1), 1);
        Check.due("2+3*4", takes("2+3*4"), 14);
        Check.due("(2+3)*4", takes("(2+3)*4"), 20);
        Check.due("20-5-3", takes("20-5-3"), 12);
        Check.due("20-(5-3)", takes("20-(5-3)"), 18);
        Check.due("40/4/2", takes("40/4/2"), 5);
        Check.due("40/(4/2)", takes("40/(4/2)"), 20);
        Check.due("7*3/2", takes("7*3/2"), 10);
        Check.due("7/2*3", takes("7/2*3"), 9);
        Check.due("to 0", takes("2-3"), 0);
        Check.due("towards 0", takes("10+(0-7)/2"), 7);
        Check.due("to 99", takes("100"), 99);
        Check.due("below after wrapping", takes("9999*9999*25"), 0);
        Check.due("above after wrapping", takes("0-9999*9999*25"), 99);
        Check.due("warm", takes("warm"), 8);
        Check.due("bright", takes("bright"), 5);
        Check.due("seat", takes("seat"), 1);
        Check.due("which", takes("which"), 1);
        Check.due("slides", takes("slides"), 2);
        Check.due("glow, others, week, joins", takes("glow+others+week+joins"), 0);
        Check.due("by 0", takes("5+1/(warm-8)"), 0);
        Check.due("by 0, looked at in vain", takes("if 1/0<1 then 5 else 6"), 0);
        Check.due("by 0 on the right", takes("if 1<1/0 then 5 else 6"), 0);
        Check.due("by 0, not looked at", takes("if 2<1 then 1/0 else 6"), 6);
        Check.due("by 0 behind", takes("if 1<2 then 5 else if 1/0<2 then 7 else 1/0"), 5);
        Check.due("alike is not less", takes("if 2<2 then 5 else 6"), 6);
        Check.due("the first that holds", takes("if 3<2 then 1 else if 1<2 then 2 else if 0<1 then 3 else 4"), 2);
        Check.due("the last", takes("if 3<2 then 1 else if 2<2 then 2 else if 1<1 then 3 else if 9<1 then 4 else 5"), 5);
        Check.due("deep", takes("1+2*(3+4*(5-1*(6-2)))"), 15);
        Check.due("deepest", takes("((((((1+2)*2)+1)*2)+1)*2)"), 30);
        // 3, 7, 15, 31, 63, 127, 255.
        String deepest = "1+2*(1+2*(1+2*(1+2*(1+2*(1+2*(1+2*1))))))";
        Check.due("most signs wait", takes(deepest + "-200"), 55);
        Check.due("most numbers wait", takes("if 254<" + deepest + " then 4-200+" + deepest + " else 3"), 59);
        // 6 + 4 tokens, then as many as there is room for: each of them counts.
        LanternPeople full = Check.village("slide a 0 0 1;person p 0;takes=50" + Check.times("+0", 192) + "+7;");
        Check.due("the longest law", full.tells(0, 0, 0), 57);
        Check.due("signs wait", takes("90-2*3*4-8/2/2+1*(5-2)"), 67);
        Check.due("the last law", takes("5;takes=6"), 6);
    }

    private static void faultChangesNothing() {
        LanternPeople x = Check.village("slide a 0 0 9;person p 1;shown p a;seed 3;");
        x.weeks(1);
        x.hold(0);
        x.tell(0, 0, true);
        Check.due("fault", Check.read(x, "slide a 0 0 9;person q 1;shown p a;"), 4);
        Check.due("count(8)", x.count(8), 0);
        Check.due("week", x.count(2), 1);
        Check.due("paid", x.count(6), 9);
        Check.due("glow", x.glow(0, 0), 8);
        Check.due("things", x.count(9), 1);
        Check.due("told", x.count(10), 1);
        Check.due("slots", x.count(11), 1);
        Check.due("undo", x.undo(), true);
        Check.due("glow", x.glow(0, 0), 9);
    }

    /** What was open in texts with a fault is not open in the next text. */
    private static void faultLeavesNothing() {
        LanternPeople x = new LanternPeople();
        for (int i = 0; i < 8; i++) {
            Check.due("fault", Check.read(x, "takes=((((((1+2*;"), 1);
            Check.due("place", x.place(), 16);
        }
        String deepest = "1+2*(1+2*(1+2*(1+2*(1+2*(1+2*(1+2*1))))))";
        Check.due("no fault", Check.read(x, "slide a 0 0 1;person p 0;takes=" + deepest + "-200;"), 0);
        Check.due("takes", x.tells(0, 0, 0), 55);
    }
}
