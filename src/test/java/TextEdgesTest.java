import java.nio.ByteBuffer;
import java.nio.IntBuffer;
import java.util.Arrays;
import java.util.List;

/** Edges of promises 1 to 5 and of the Terms, sentence by sentence. */
public final class TextEdgesTest {
    private static final String[] WORDS = {"slide", "person", "shown", "takes", "fades", "pays", "washes", "seed", "if", "then",
        "else", "glow", "warm", "bright", "week", "seat", "joins", "which", "others", "slides"};
    private static final String FIVE = "slide a 0 1 2;slide b 1 2 3;slide c 2 3 4;slide d 3 4 5;slide e 4 5 6;";
    private static final String SIX = "person p 0;person q 1;person r 2;person s 3;person t 4;person u 5;";

    /** One token of each sort, and what is none. */
    private static final String[] TOKENS = {"slide", "person", "shown", "takes", "fades", "pays", "washes", "seed", "if", "then",
        "else", "glow", "others", "slides", "name", "7", ";", "=", "+", "-", "*", "/", "<", "(", ")", ".", "ninechars", "12345"};

    private TextEdgesTest() { }

    public static void main(String[] args) {
        newObject();
        tapeLimit();
        highestFirst();
        backEdges();
        readEmpties();
        latestPlace();
        longestText();
        blanks();
        names();
        words();
        ints();
        signs();
        longer();
        numbered();
        mostOfEach();
        thrownAtFirst();
        lawsNotTold();
        seeds();
        goesOnByTheGrammar();
        endOfText();
        leastOfOnePlace();
        tokensLimit();
        sortLimits();
        ifLimit();
        bracketLimit();
        twice();
        nameTold();
        wrongNumbers();
        laterOnes();
        everyFaultLeavesAll();
        inPlaceOfTheOneAhead();
        oneBehindAnother();
        longLawsBehindOneAnother();
        behindFaults();
        Check.end();
    }

    private static void newObject() {
        Check.of("`LanternPeople()`: No SLIDES, no PEOPLE.");
        LanternPeople x = new LanternPeople();
        for (int what = 0; what <= 17; what++) {
            Check.due("count(" + what + ")", x.count(what), 0);
        }
        Check.due("slide", x.slide(0, 0), -1);
        Check.due("person", x.person(0, 0), -1);
        Check.due("seat", x.seat(0), -1);
        Check.due("bestRow", x.bestRow(-1), 0);
        Check.due("fullRows", x.fullRows(), 1);
        Check.due("rings", x.rings(), 0);
        Check.due("longest", x.longest(-1), 0);
        Check.due("mend", x.mend(-1), 0);
        Check.due("game", x.game(0), 2);
        Check.due("whom", x.game(1), -2);
        Check.due("worth", x.worth(60), 0);
        Check.due("lonely", x.lonely(), 0);
        Check.due("brightest", x.brightest(0), -2);
        Check.due("brightest", x.brightest(1), -2);
        Check.due("open", x.open(), 0);
        Check.due("paidIn", x.paidIn(60), 0);
        Check.due("which", x.which(0, 0), 0);
        Check.due("look", x.look(0, 0), -2);
        Check.due("place", x.place(), -1);
        Check.due("back", x.back(0), 0);
        Check.due("forget", x.forget(), 0);
        Check.due("hold", x.hold(0), true);
        Check.due("restore", x.restore(0), true);
    }

    /** A tape of n bytes, all blank. */
    private static LanternPeople tapeOf(int n) {
        LanternPeople x = new LanternPeople();
        Check.feed(x, Check.bytes(Check.times(" ", n)));
        Check.due("bytes", x.count(8), n);
        return x;
    }

    private static void tapeLimit() {
        Check.of("NONE, and nothing comes, if it would have more than 2,000.");
        for (int n = 1970; n <= 2000; n++) {
            LanternPeople x = tapeOf(n);
            boolean fits = n <= 1980;
            Check.due("feed at " + n, x.feed(0x3b3b3b3b, 0x3b3b3b3b, 0x3b3b3b3b, 0x3b3b3b3b, 0x3b3b3b3b), fits ? n + 20 : -1);
            Check.due("bytes", x.count(8), fits ? n + 20 : n);
            Check.due("read at " + n, x.read(), fits ? 1 : 0);
            Check.due("place at " + n, x.place(), fits ? n : -1);
        }
        LanternPeople again = tapeOf(2000);
        Check.due("refused", again.feed(0, 0, 0, 0, 0), -1);
        Check.due("back", again.back(20), 1980);
        Check.due("then there is room", again.feed(0x20202020, 0x20202020, 0x20202020, 0x20202020, 0x20202020), 2000);
        again.read();
        Check.due("and behind a read", again.feed(0, 0, 0, 0, 0), 20);
    }

    private static void highestFirst() {
        Check.of("Twenty bytes, the highest of a first, come behind the tape: how many it has.");
        LanternPeople x = new LanternPeople();
        // "seed 12;person pq 3;", one byte of each sort of place in it wrong in turn.
        int[] five = {0x73656564, 0x2031323b, 0x70657273, 0x6f6e2070, 0x7120333b};
        Check.due("feed", x.feed(five[0], five[1], five[2], five[3], five[4]), 20);
        Check.due("read", x.read(), 0);
        Check.due("people", x.count(1), 1);
        for (int at = 0; at < 20; at++) {
            int[] hurt = five.clone();
            hurt[at / 4] = hurt[at / 4] & ~(255 << 24 - at % 4 * 8) | 0xe9 << 24 - at % 4 * 8;
            x.feed(hurt[0], hurt[1], hurt[2], hurt[3], hurt[4]);
            Check.due("read with a byte of 233 at " + at, x.read(), 1);
            // Within what was one word or name, what stands ahead of it is a NAME, or too short a one.
            int place = at < 4 ? 0 : at > 8 && at < 14 ? 8 : at;
            Check.due("place", x.place(), place);
        }
    }

    private static void backEdges() {
        Check.of("NONE, and nothing goes, if it has not so many, or n is below 0.");
        LanternPeople x = tapeOf(2000);
        Check.due("back(2001)", x.back(2001), -1);
        Check.due("back(-1)", x.back(-1), -1);
        Check.due("back(0)", x.back(0), 2000);
        Check.due("back(1)", x.back(1), 1999);
        Check.due("back(2000)", x.back(2000), -1);
        Check.due("bytes", x.count(8), 1999);
        Check.due("back(1999)", x.back(1999), 0);
        Check.due("back(1)", x.back(1), -1);
        Check.due("back(0)", x.back(0), 0);
        Check.of("The last n bytes of the tape go");
        LanternPeople y = new LanternPeople();
        Check.feed(y, Check.bytes("seed 1;seed 2;;"));
        Check.due("back(1)", y.back(1), 14);
        Check.due("read", y.read(), 0);
    }

    private static void readEmpties() {
        Check.of("The tape, which is empty then, is read: 0, or the number of its FAULT.");
        LanternPeople x = new LanternPeople();
        Check.due("an empty tape", x.read(), 0);
        Check.of("text: {TELL}.");
        Check.due("of no TELL", Check.read(x, " "), 0);
        Check.of("The tape, which is empty then, is read: 0, or the number of its FAULT.");
        Check.due("fault", Check.read(x, "slide"), 1);
        Check.due("bytes", x.count(8), 0);
        Check.due("again", x.read(), 0);
        Check.due("no fault", Check.read(x, "person p 1;"), 0);
        Check.due("bytes", x.count(8), 0);
        Check.due("back", x.back(1), -1);
        Check.due("people", x.count(1), 1);
        Check.due("an empty tape is a text, too", x.read(), 0);
        Check.due("people", x.count(1), 0);
    }

    private static void latestPlace() {
        Check.of("The byte of the latest read()'s FAULT; NONE without.");
        LanternPeople x = new LanternPeople();
        Check.due("before any", x.place(), -1);
        Check.read(x, "x");
        Check.due("at 0", x.place(), 0);
        x.feed(0, 0, 0, 0, 0);
        x.back(3);
        Check.due("while another is fed", x.place(), 0);
        x.back(17);
        Check.read(x, "seed 1;;");
        Check.due("of the latest", x.place(), 7);
        x.read();
        Check.due("without", x.place(), -1);
    }

    private static void longestText() {
        Check.of("A TEXT has 2,000 bytes at most.");
        String end = "person p 1;slide a 0 0 1;shown p a;seed 9999;";
        String whole = Check.times(" ", 2000 - end.length()) + end;
        LanternPeople x = Check.village(whole);
        Check.due("people", x.count(1), 1);
        Check.due("glow", x.glow(0, 0), 1);
        Check.fault(whole.substring(1, 2000 - 1) + "  ", 1, 2000);
        Check.fault(whole.substring(1), 0, -1);
        Check.fault(Check.times(" ", 1999) + ";", 1, 1999);
        Check.fault(Check.times(" ", 1991) + "abcdefghi", 1, 1991);
        Check.fault(Check.times(" ", 1995) + "slide", 1, 2000);
        Check.fault(Check.times("\n", 2000), 0, -1);
    }

    private static void blanks() {
        Check.of("with blanks (9, 10, 13, 32) between or not");
        for (int b = 0; b < 256; b++) {
            String sign = String.valueOf((char) b);
            boolean blank = b == 9 || b == 10 || b == 13 || b == 32;
            Check.fault(sign, blank ? 0 : 1, blank ? -1 : 0);
            // Behind an INT, a digit goes on in it, and a ; ends the TELL.
            boolean fits = blank || b >= '0' && b <= '9';
            Check.fault("seed 1" + sign + ";", fits ? 0 : 1, fits ? -1 : b == ';' ? 7 : 6);
        }
        Check.of("TOKENS, the longest that can be, with blanks");
        Check.fault("slidea0 0 1;persona 1;", 1, 0);
        Check.fault("person slidesea 1;person iff 1;seed 0011;", 0, -1);
        Check.fault("slide a0 0 1;person p1;shown p a;takes=if 1<2then 3else 4;seed1;", 0, -1);
        Check.fault("slide\ta\n0\r1 2\t;\r\n", 0, -1);
        Check.fault("\t\n\r ", 0, -1);
    }

    private static void names() {
        Check.of("NAMES (letters a .. z, 8 at most, none of the words in quotes)");
        Check.fault("person a 1;person z 1;", 0, -1);
        Check.fault("person abcdefgh 1;", 0, -1);
        Check.fault("person zzzzzzzz 1;", 0, -1);
        Check.fault("person abcdefghi 1;", 1, 7);
        Check.fault("person " + Check.times("z", 1000) + " 1;", 1, 7);
        // The eighth letter counts, and so does how many there are.
        Check.fault("person abcdefgh 1;person abcdefgi 1;person abcdefg 1;person abcdef 1;", 0, -1);
        Check.fault("person a 1;person aa 1;person aaa 1;person aaaaaaaa 1;", 0, -1);
        Check.fault("person zzzzzzzz 1;person zzzzzzzz 1;", 3, 25);
        String[] near = {"a", "b", "z", "aa", "ab", "ba", "bb", "az", "za", "zz", "aaa", "baa", "aab", "bbb", "zaz", "yzyzyzyz", "zyzyzyzy"};
        for (String first : near) {
            for (String other : near) {
                boolean same = first.equals(other);
                Check.fault("person " + first + " 1;person " + other + " 1;", same ? 3 : 0, same ? 17 + first.length() : -1);
            }
        }
        for (String odd : new String[] {"A", "Z", "`", "{", "_", "@", "[", "\u00e9", "\u007f", "\u0080", "\u00e1", "\u00fa"}) {
            Check.fault("person " + odd + " 1;", 1, 7);
            Check.fault("person a" + odd + " 1;", 1, 8);
        }
        Check.fault("person a1 1;", 1, 10);
    }

    private static void words() {
        Check.of("none of the words in quotes");
        for (String word : WORDS) {
            Check.fault("person " + word + " 1;", 1, 7);
            Check.fault("slide " + word + " 1 1 1;", 1, 6);
            Check.fault("person p 1;shown p " + word + ";", 1, 19);
            if (word.length() < 8 && !word.equals("slide")) {
                Check.fault("person " + word + "s 1;", 0, -1);
            }
            Check.fault("person " + word.substring(1) + " 1;", 0, -1);
            Check.fault("person x" + word + " 1;", 0, -1);
            for (int at = 0; at < word.length(); at++) {
                // One letter of it otherwise, and it is a NAME.
                Check.fault("person " + word.substring(0, at) + "q" + word.substring(at + 1) + " 1;", 0, -1);
            }
        }
        Check.fault("slideslid a 0 0 1;", 1, 0);
        Check.fault("slidesli a 0 0 1;", 1, 0);
        Check.fault("Slide a 0 0 1;", 1, 0);
    }

    private static void ints() {
        Check.of("INTS (1 to 4 digits)");
        Check.fault("seed 0;seed 00;seed 000;seed 0000;seed 9999;", 0, -1);
        Check.fault("seed 00000;", 1, 5);
        Check.fault("seed 10000;", 1, 5);
        Check.fault("seed 99999999999999999999;", 1, 5);
        Check.fault("seed " + Check.times("0", 500) + ";", 1, 5);
        Check.fault("slide a 0005 0000 0020;person p 0009;", 0, -1);
        Check.fault("takes=00001;", 1, 6);
        Check.fault("takes=1+99999;", 1, 8);
        Check.fault("seed 1 2;", 1, 7);
        Check.fault("seed 1a;", 1, 6);
    }

    private static void signs() {
        Check.of("SIGNS ; = + - * / < ( ) .");
        Check.fault("takes=1+2-3*4/(5);pays=if 1<2 then 3 else 4;", 0, -1);
        for (char sign : ",.:>!?%&|^~[]{}#$@\\\"'_".toCharArray()) {
            Check.fault("takes=1" + sign + "2;", 1, 7);
            Check.fault(String.valueOf(sign), 1, 0);
        }
    }

    private static void longer() {
        Check.of("A longer one, all else, is no TOKEN.");
        // Where a NAME, an INT or a word would stand, at its first byte.
        Check.fault("personal p 1;", 1, 0);
        Check.fault("persons p 1;", 1, 0);
        Check.fault("seed 1;abcdefghi", 1, 7);
        Check.fault("seed 1;12345", 1, 7);
        Check.fault("takes=abcdefghi;", 1, 6);
        Check.fault("takes=if 1<2 thenthenthen 1 else 2;", 1, 13);
        // What stands ahead of it and has no end does not count: the first by its place.
        Check.fault("seed seed 123456;", 1, 5);
        Check.fault("slide a 9 9 99;.", 1, 15);
    }

    private static void numbered() {
        Check.of("numbered each from 0 on as they stand; they stand in a ROW as they are told, from the left.");
        LanternPeople x = Check.village("person u 5;slide e 4 5 20;person t 4;slide d 3 4 1;shown t d;person s 3;seed 1;slide c 0 0 9;");
        int[] warm = {5, 4, 3};
        for (int p = 0; p < 3; p++) {
            Check.due("warm", x.person(p, 0), warm[p]);
            Check.due("seat", x.person(p, 2), p);
            Check.due("at seat", x.seat(p), p);
        }
        int[] bright = {20, 1, 9};
        for (int s = 0; s < 3; s++) {
            Check.due("bright", x.slide(s, 2), bright[s]);
        }
        Check.due("shown", x.glow(1, 1), 1);
        Check.due("all", x.count(7), 1);
    }

    private static void mostOfEach() {
        Check.of("SLIDES, 5 at most (a NAME, its LEFT, its RIGHT edge 0 .. 5 each, how BRIGHT 1 .. 20), PEOPLE, 6 at most (a NAME, WARM 0 .. 9)");
        LanternPeople x = Check.village("slide a 0 5 1;slide b 5 0 20;slide c 0 0 1;slide d 5 5 20;slide e 1 4 10;"
            + "person p 0;person q 9;person r 1;person s 8;person t 0;person u 9;");
        int[][] slides = {{0, 5, 1}, {5, 0, 20}, {0, 0, 1}, {5, 5, 20}, {1, 4, 10}};
        int[] warm = {0, 9, 1, 8, 0, 9};
        Check.due("slides", x.count(0), 5);
        Check.due("people", x.count(1), 6);
        for (int s = 0; s < 5; s++) {
            for (int what = 0; what < 3; what++) {
                Check.due("slide(" + s + ", " + what + ")", x.slide(s, what), slides[s][what]);
            }
        }
        for (int p = 0; p < 6; p++) {
            Check.due("warm of " + p, x.person(p, 0), warm[p]);
        }
        Check.due("all warm", x.count(15), 27);
    }

    private static void thrownAtFirst() {
        Check.of("SHOWN, 20 at most: a PERSON, a SLIDE: it is thrown upon them at first, one behind the other, as they are told (week 0).");
        String two = "slide a 0 0 5;slide b 0 0 7;person p 0;person q 0;takes=bright+others;";
        LanternPeople x = Check.village(two + "shown p a;shown p b;");
        Check.due("a first", x.glow(0, 0), 5);
        Check.due("then b", x.glow(0, 1), 12);
        LanternPeople y = Check.village(two + "shown p b;shown p a;");
        Check.due("then a", y.glow(0, 0), 12);
        Check.due("b first", y.glow(0, 1), 7);
        // What joins by then counts, too: q's is thrown when p's is there, and once more when q's is.
        LanternPeople z = Check.village("slide a 0 0 5;person p 0;person q 0;takes=1+10*joins;shown p a;shown q a;shown q a;shown p a;");
        Check.due("1, then 11 more", z.glow(0, 0), 12);
        Check.due("1, then 11 more", z.glow(1, 0), 12);
        Check.due("week 0", z.count(2), 0);
        Check.due("no thing done", z.count(9), 0);
        Check.due("nothing paid", z.count(6), 0);
    }

    private static void lawsNotTold() {
        Check.of("TAKES (bright), FADES (1), PAYS (glow), WASHES (0), if not told; the last one.");
        LanternPeople x = Check.village("slide a 0 0 20;slide b 0 0 1;person p 9;shown p a;");
        Check.due("takes", x.tells(0, 0, 0), 20);
        Check.due("takes", x.tells(0, 1, 0), 1);
        Check.due("fades", x.tells(0, 0, 1), 1);
        Check.due("fades", x.tells(0, 1, 1), 1);
        Check.due("pays", x.person(0, 4), 20);
        Check.due("washes", x.person(0, 5), 0);
        LanternPeople y = Check.village("takes=1;takes=2;fades=3;fades=4;pays=5;pays=6;washes=7;washes=8;slide a 0 0 9;person p 0;shown p a;");
        Check.due("takes", y.tells(0, 0, 0), 2);
        Check.due("thrown at first", y.glow(0, 0), 2);
        Check.due("fades", y.tells(0, 0, 1), 4);
        Check.due("pays", y.person(0, 4), 6);
        Check.due("washes", y.person(0, 5), 8);
    }

    private static void seeds() {
        Check.of("SEED 0 .. 9999 (0): the last one.");
        String six = SIX + "washes=50;";
        int none = Check.village(six).count(13);
        Check.due("0", Check.village(six + "seed 0;").count(13), none);
        Check.due("the last is 0", Check.village(six + "seed 7;seed 0;").count(13), none);
        Check.due("the last is 7", Check.village("seed 9999;" + six + "seed 7;").count(13), lots(7, 0, 50));
        Check.due("9999", Check.village("seed 9999;" + six).count(13), lots(9999, 0, 50));
        Check.due("they are unlike", lots(7, 0, 50) != lots(9999, 0, 50) && lots(7, 0, 50) != none, true);
    }

    /** For whom of six LOT 100 is less than washes (bits). */
    private static int lots(int seed, int week, int washes) {
        int bits = 0;
        for (int p = 0; p < 6; p++) {
            bits |= PlainModel.lot(100, seed, 8 * week + p) < washes ? 1 << p : 0;
        }
        return bits;
    }

    /** Each token of some texts put otherwise, put in ahead, or left out: as the plain model reads it. */
    private static void goesOnByTheGrammar() {
        Check.of("1 SYNTAX: a TOKEN, or what is none, with which no text goes on.");
        String[] texts = {"slide a 0 1 2 ; person p 3 ; shown p a ; seed 4 ;", "takes = if 1 < glow then ( 2 ) else 3 ; fades = 4 ;",
            "pays = ( ( 1 + week ) * 2 - seat ) / 3 ;", "washes = if ( 1 ) < 2 then 3 else if 4 < 5 then 6 else ( 7 * which ) ;"};
        for (String text : texts) {
            String[] tokens = text.split(" ");
            for (int at = 0; at <= tokens.length; at++) {
                String ahead = String.join(" ", Arrays.copyOfRange(tokens, 0, at));
                String there = String.join(" ", Arrays.copyOfRange(tokens, at, tokens.length));
                String behind = String.join(" ", Arrays.copyOfRange(tokens, Math.min(at + 1, tokens.length), tokens.length));
                asModel(ahead + " " + behind);
                asModel(ahead);
                for (String token : TOKENS) {
                    asModel(ahead + " " + token + " " + behind);
                    asModel(ahead + " " + token + " " + there);
                }
            }
        }
    }

    private static void asModel(String text) {
        PlainModel model = new PlainModel();
        byte[] bytes = Check.bytes(text + Check.times(" ", (20 - text.length() % 20) % 20));
        IntBuffer ints = ByteBuffer.wrap(bytes).asIntBuffer();
        while (ints.hasRemaining()) {
            model.feed(ints.get(), ints.get(), ints.get(), ints.get(), ints.get());
        }
        model.back(bytes.length - text.length());
        int due = model.read();
        Check.fault(text, due, model.place());
    }

    private static void endOfText() {
        Check.of("(a byte; the text's end: its length)");
        String whole = "slide a 0 0 1; person p 1; takes = if (1) < 2 then 3 else 4 * 5; seed 1;";
        for (int length = 1; length < whole.length(); length++) {
            String part = whole.substring(0, length);
            LanternPeople x = new LanternPeople();
            Check.feed(x, Check.bytes(part + "  "));
            boolean complete = part.endsWith(";") || part.endsWith("; ");
            // Cut within a word that is none then, or behind one with which it goes on no further than the end.
            boolean name = part.matches(".*(^|; )(s|sl|sli|slid|p|pe|per|pers|perso|t|ta|tak|take|se|see)")
                || part.matches(".*=.* (i|t|th|the|e|el|els)") && !part.matches(".*;.*;.*;.*");
            Check.due("read of " + part, x.read(), complete ? 0 : 1);
            int end = part.length() + 2;
            int last = part.lastIndexOf(' ') + 1;
            Check.due("place of " + part, x.place(), complete ? -1 : name ? last : end);
        }
    }

    private static void leastOfOnePlace() {
        Check.of("FAULTS of a text, the first by its place (a byte; the text's end: its length), of one place the least");
        String many = Check.times("seed 1;", 133);
        // 399 tokens: the 400th fits, the 401st does or does not.
        Check.fault(many + "seed.", 1, many.length() + 4);
        Check.fault(many + "seed 12345", 1, many.length() + 5);
        Check.fault(many + "seed seed", 1, many.length() + 5);
        Check.fault(many + "seed 1", 2, many.length() + 5);
        // 30 and 370 tokens: a sixth slide is the 401st token, too.
        String full = FIVE + "takes=1" + Check.times("+1", 183) + ";";
        Check.fault(full, 0, -1);
        Check.fault(full + "slide", 2, full.length());
        Check.fault(full + "slides", 1, full.length());
        Check.fault("slide a 9 9 99;slide a 0 0 1;seed .", 1, 34);
        Check.fault("takes=" + Check.times("if 1<2 then 3 else ", 4) + "if;", 2, 6 + 76);
        Check.fault("takes=((((((;", 1, 12);
        Check.fault("takes=((((((()", 2, 12);
        Check.fault(FIVE + "slide;", 2, FIVE.length());
    }

    private static void tokensLimit() {
        Check.of("2 ROOM: a 401st TOKEN;");
        // 133 seeds are 399 tokens; two persons' tells are 8; a law of n units and n - 1 signs is 2 n + 2.
        String law = "takes=1" + Check.times("+1", 198) + ";";
        Check.fault(law, 0, -1);
        Check.fault(law + " \n", 0, -1);
        Check.fault(law + " seed", 2, law.length() + 1);
        Check.fault(law + " x", 1, law.length() + 1);
        Check.fault(law + "\u0000", 1, law.length());
        for (int units = 190; units <= 205; units++) {
            String sums = "fades=1" + Check.times("-1", units - 1) + ";";
            Check.fault(sums, units <= 199 ? 0 : 2, units <= 199 ? -1 : 6 + 2 * 199);
        }
        String seeds = Check.times("seed 1;", 132);
        Check.fault(seeds + "person p 1;", 0, -1);
        Check.fault(seeds + "person p 1;person", 2, seeds.length() + 11);
        Check.fault(seeds + "takes=1;", 0, -1);
        Check.fault(seeds + "takes=1+1;", 2, seeds.length() + 8);
        // Blanks are none, however many.
        Check.fault(Check.times("seed 1; \t\n\r", 133), 0, -1);
    }

    private static void sortLimits() {
        Check.of("one more of a sort than told (at its first TOKEN);");
        Check.fault(FIVE + SIX, 0, -1);
        Check.fault(FIVE + SIX + "slide f 0 0 1;", 2, FIVE.length() + SIX.length());
        Check.fault(SIX + FIVE + "person v 0;", 2, FIVE.length() + SIX.length());
        String shown = FIVE + SIX + Check.times("shown u e;", 20);
        LanternPeople x = Check.village(shown);
        Check.due("all of the 20", x.glow(5, 4), 99);
        Check.fault(shown + "\nshown u e;", 2, shown.length() + 1);
        Check.fault(shown + "shown", 2, shown.length());
        LanternPeople dim = Check.village("slide a 0 0 1;person p 0;" + Check.times("shown p a;", 20));
        Check.due("20 of them", dim.glow(0, 0), 20);
        // Seeds and laws may come as often as there is room.
        Check.fault(Check.times("takes=1;fades=1;pays=1;washes=1;seed 1;", 21), 0, -1);
    }

    private static void ifLimit() {
        Check.of("a 5th if of a LAW (at it);");
        String four = Check.times("if week<0 then 1 else ", 4);
        for (String law : new String[] {"takes", "fades", "pays", "washes"}) {
            Check.fault(law + "=" + four + "7;", 0, -1);
            Check.fault(law + "=" + four + "if 1<2 then 3 else 4;", 2, law.length() + 1 + 88);
        }
        Check.fault("takes=" + four + "7;takes=" + four + "7;fades=" + four + "7;", 0, -1);
        LanternPeople x = Check.village("slide a 0 0 1;person p 0;takes=" + four + "7;");
        Check.due("the last of four", x.tells(0, 0, 0), 7);
    }

    private static void bracketLimit() {
        Check.of("a 7th ( within one another (at it).");
        Check.fault("takes=((((((7))))));", 0, -1);
        Check.fault("takes=(((((((7)))))));", 2, 12);
        Check.fault("takes= ( ( ( ( ( ( (7", 2, 19);
        // Beside one another there may be more; each E of a LAW begins anew.
        Check.fault("takes=(((((1)+(2)))))+((((((3))))))*(4)*(5)*(6);", 0, -1);
        Check.fault("takes=if ((((((1))))))<((((((2)))))) then ((((((3)))))) else ((((((4))))));", 0, -1);
        Check.fault("takes=if ((((((1))))))<((((((2)))))) then (((((((3)))))) else 4;", 2, 48);
        Check.fault("takes=((((((1))+((2)))))+(((((3))))));", 0, -1);
        Check.fault("takes=((((((1))+(((2))))))+3);", 2, 18);
    }

    private static void twice() {
        Check.of("3 TWICE: a NAME told already (of SLIDES and PEOPLE together).");
        Check.fault("slide a 0 0 1;slide a 0 0 1;", 3, 20);
        Check.fault("person a 0;person a 0;", 3, 18);
        Check.fault("slide a 0 0 1;person a 0;", 3, 21);
        Check.fault("person a 0;slide a 0 0 1;", 3, 17);
        Check.fault("slide a 0 0 1;slide b 0 0 1;slide a 0 0 1;slide b 0 0 1;", 3, 34);
        Check.fault(FIVE + "person e 0;", 3, FIVE.length() + 7);
        Check.fault(SIX + "slide u 0 0 1;", 3, SIX.length() + 6);
        // Shown ones tell no name.
        Check.fault("slide a 0 0 1;person p 0;shown p a;shown p a;", 0, -1);
    }

    private static void nameTold() {
        Check.of("4 NAME: (at it) no such PERSON, SLIDE told ahead");
        Check.fault("shown p a;", 4, 6);
        Check.fault("person p 0;shown p p;", 4, 19);
        Check.fault("slide a 0 0 1;shown a a;", 4, 20);
        Check.fault("shown p a;person p 0;slide a 0 0 1;", 4, 6);
        Check.fault("person p 0;shown p a;slide a 0 0 1;", 4, 19);
        Check.fault("slide a 0 0 1;shown p a;person p 0;", 4, 20);
        Check.fault("slide a 0 0 1;person p 0;shown pp a;", 4, 31);
        Check.fault("slide a 0 0 1;person p 0;shown p aa;", 4, 33);
        Check.of("(a NAME told more than once is that of the first one of the sort)");
        Check.fault("slide a 0 0 1;slide b 0 0 1;slide b 0 0 1;person p 0;shown p b;", 3, 34);
    }

    private static void wrongNumbers() {
        Check.of("5 WRONG (at the INT): a number not as told above.");
        for (int n = 0; n <= 25; n++) {
            Check.fault("slide a " + n + " 0 1;", n <= 5 ? 0 : 5, n <= 5 ? -1 : 8);
            Check.fault("slide a 0 " + n + " 1;", n <= 5 ? 0 : 5, n <= 5 ? -1 : 10);
            Check.fault("slide a 0 0 " + n + ";", n >= 1 && n <= 20 ? 0 : 5, n >= 1 && n <= 20 ? -1 : 12);
            Check.fault("person p " + n + ";", n <= 9 ? 0 : 5, n <= 9 ? -1 : 9);
        }
        Check.fault("slide a 9999 0 1;", 5, 8);
        Check.fault("slide a 0 0 0000;", 5, 12);
        Check.fault("person p 0010;", 5, 9);
        Check.fault("slide a 6 6 21;", 5, 8);
        Check.fault("slide a 5 6 21;", 5, 10);
        // A LAW's INTS may be any.
        Check.fault("takes=9999;fades=0;pays=0000;washes=9999*9999;seed 9999;", 0, -1);
    }

    private static void laterOnes() {
        Check.of("If there is none, likewise:");
        Check.fault("slide a 6 0 1;slide a 0 0 1;shown p q;", 5, 8);
        Check.fault("slide a 0 0 1;slide a 6 0 1;shown p q;", 3, 20);
        Check.fault("shown p q;slide a 6 0 1;slide a 0 0 1;", 4, 6);
        Check.fault("shown p q;slide a 6 0 1;seed 1;;", 1, 31);
        Check.fault("slide a 6 0 1;" + SIX + "person v 0;", 2, 14 + SIX.length());
        Check.fault("person p 10;takes=" + Check.times("if 1<2 then 3 else ", 5) + "4;", 2, 12 + 6 + 76);
        Check.fault("person p 10;takes=(((((((1)))))));", 2, 24);
        Check.fault("person p 10;" + Check.times("seed 1;", 132) + "seed", 2, 12 + 132 * 7);
        Check.fault("person p 10;" + Check.times("seed 1;", 132), 5, 9);
    }

    private static void everyFaultLeavesAll() {
        Check.of("A text with a FAULT changes nothing but the tape;");
        String[] faults = {"seed", FIVE + "slide f 0 0 1;", "slide a 0 0 1;person a 0;", "slide a 0 0 1;shown p a;",
            "slide a 0 0 1;person p 0;shown p a;takes=50;fades=9;washes=100;seed 5;person q 10;"};
        for (int i = 0; i < faults.length; i++) {
            LanternPeople touched = busy();
            LanternPeople untouched = busy();
            // Each has read a text with some fault, and so has a place; just one of them this one.
            Check.due("read", Check.read(touched, faults[i]), i + 1);
            Check.due("bytes", touched.count(8), 0);
            Check.due("read", Check.read(touched, "."), 1);
            Check.due("read", Check.read(untouched, "."), 1);
            Twins.alike("read of " + faults[i], touched, untouched);
            LanternPeople same = busy();
            List<String> before = Twins.seen(same);
            Check.due("read", Check.read(same, faults[i]), i + 1);
            Check.due("all is as before " + faults[i], Twins.seen(same).equals(before), true);
        }
    }

    private static LanternPeople busy() {
        LanternPeople x = Check.village(SceneTest.RING + "takes=bright/2+1;fades=2;pays=warm+1;washes=40;seed 77;");
        x.hold(1);
        x.show(3, 1);
        x.go(2, 0);
        x.weeks(1);
        x.tell(2, 5, true);
        return x;
    }

    private static void inPlaceOfTheOneAhead() {
        Check.of("else it is in place of the one ahead: week 0, nothing paid; nothing can be undone, nothing is TOLD, SLOTS hold nothing.");
        LanternPeople x = busy();
        x.hold(0);
        x.hold(2);
        Check.due("paid", x.count(6) > 0, true);
        Check.due("read", Check.read(x, "slide z 1 2 3;person y 4;person v 5;"), 0);
        int[] due = {1, 2, 0, 0, 3, 0, 0, 0, 0, 0, 0, 0, 0, 0, 0, 9, 0, 2};
        for (int what = 0; what < due.length; what++) {
            Check.due("count(" + what + ")", x.count(what), due[what]);
        }
        Check.due("undo", x.undo(), false);
        for (int slot = 0; slot < 3; slot++) {
            Check.due("restore", x.restore(slot), false);
        }
        Check.due("which", x.which(1, 0), -1);
        Check.due("the row as told", x.seat(0), 0);
        // Laws and the seed of the one ahead are gone, too.
        Check.due("takes", x.tells(0, 0, 0), 3);
        Check.due("fades", x.tells(0, 0, 1), 1);
        Check.due("show", x.show(1, 0), 0);
        Check.due("pays", x.person(1, 4), 3);
        Check.due("washes", x.person(1, 5), 0);
        Check.due("names may be told anew", Check.read(x, "slide ann 0 0 6;person sun 1;shown sun ann;"), 0);
        // Nor do they come back by the next text.
        Check.due("takes", x.tells(0, 0, 0), 6);
        Check.due("fades", x.tells(0, 0, 1), 1);
        Check.due("pays", x.person(0, 4), 6);
        Check.due("washes", x.person(0, 5), 0);
        Check.due("a seed of washes that are told", Check.read(x, SIX + "washes=50;"), 0);
        Check.due("is 0", x.count(13), lots(0, 0, 50));
        Check.due("names of the one ahead", Check.read(x, "shown sun ann;"), 4);
        Check.due("none at all", x.read(), 0);
        Check.due("slides", x.count(0), 0);
        Check.due("people", x.count(1), 0);
    }

    /** What one text told is never there in a later one that does not tell it. */
    private static void oneBehindAnother() {
        Check.of("else it is in place of the one ahead");
        String told = "slide a 0 0 9;" + SIX + "shown p a;takes=3;fades=4;pays=5;washes=60;seed 77;";
        for (int times = 1; times <= 3; times++) {
            LanternPeople x = new LanternPeople();
            for (int i = 0; i < times; i++) {
                Check.due("read", Check.read(x, told), 0);
                Check.due("glow", x.glow(0, 0), 3);
                Check.due("who would wash", x.count(13), lots(77, 0, 60));
            }
            for (int i = 0; i < 3; i++) {
                Check.due("read", Check.read(x, "slide b 1 1 6;" + SIX), 0);
                Check.due("nothing shown", x.count(7), 0);
                Check.due("takes", x.tells(0, 0, 0), 6);
                Check.due("fades", x.tells(0, 0, 1), 1);
                Check.due("show", x.show(0, 0), 0);
                Check.due("pays", x.person(0, 4), 6);
                Check.due("washes", x.person(0, 5), 0);
            }
            for (int i = 0; i < 3; i++) {
                Check.due("read", Check.read(x, SIX + "washes=60;"), 0);
                Check.due("who would wash by seed 0", x.count(13), lots(0, 0, 60));
                Check.due("slides", x.count(0), 0);
            }
        }
    }

    private static void longLawsBehindOneAnother() {
        LanternPeople x = new LanternPeople();
        for (int i = 0; i < 12; i++) {
            // 10 tokens, and a law of 390.
            Check.due("read", Check.read(x, "slide a 0 0 1;person p 0;takes=" + i + Check.times("+0", 192) + "+7;"), 0);
            Check.due("takes", x.tells(0, 0, 0), i + 7);
            Check.due("fades", x.tells(0, 0, 1), 1);
        }
    }

    private static void behindFaults() {
        Check.of("A text with a FAULT changes nothing but the tape;");
        String[] faults = {"takes=((1", "takes=2-(3*", "takes=2*", "takes=if 1<", "takes=if 1<2 then 3+(4", "slide a 0 0 1;slide b",
            FIVE + SIX + "shown p a;.", "takes=" + Check.times("if 1<2 then 3 else ", 4) + "(", "slide a 9 9 9;seed 5;fades=(7);"};
        for (String fault : faults) {
            LanternPeople x = new LanternPeople();
            for (int i = 0; i < 3; i++) {
                Check.due("fault", Check.read(x, fault) > 0, true);
                Check.due("read", Check.read(x, "slide a 0 0 1;person p 0;takes=5+(6-2)*3;"), 0);
                Check.due("takes", x.tells(0, 0, 0), 17);
                Check.due("fades", x.tells(0, 0, 1), 1);
                Check.due("slides", x.count(0), 1);
                Check.due("people", x.count(1), 1);
                Check.due("glows", x.count(7), 0);
            }
        }
    }
}
