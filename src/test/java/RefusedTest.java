/** Every call that the document refuses, in villages of many sorts: what it answers, and that nothing changes. */
public final class RefusedTest {
    private static final int LEAST = Integer.MIN_VALUE;
    private static final int MOST = Integer.MAX_VALUE;
    private static final String TEXT = "slide sun 0 1 10;slide sea 1 2 6;slide owl 2 0 4;slide fox 0 0 20;slide oak 5 5 1;"
        + "person ann 3;person bob 0;person cyd 9;person dot 5;person eve 1;person fay 2;"
        + "shown ann sun;shown bob sea;shown cyd owl;shown eve fox;"
        + "fades=if glow<5 then 1 else joins+1;washes=warm*10;seed 42;";

    private RefusedTest() { }

    private static void fresh(LanternPeople x) { }

    /** Things done, told ones, slots and bytes on the tape; fay is plain. */
    private static void busy(LanternPeople x) {
        Check.due("read", Check.read(x, TEXT), 0);
        x.hold(0);
        x.show(3, 0);
        x.wash(1);
        x.go(0, 3);
        x.weeks(2);
        x.hold(2);
        x.tell(0, 1, true);
        x.tell(3, 1, false);
        Check.feed(x, Check.bytes("seed 1;person zed 3;"));
    }

    /** The last text read had a fault. */
    private static void faulty(LanternPeople x) {
        busy(x);
        Check.due("read", Check.read(x, "seed"), 1);
        Check.feed(x, Check.bytes("slide a 0 0 1;"));
    }

    private static void peopleAlone(LanternPeople x) {
        Check.due("read", Check.read(x, "person p 1;person q 9;"), 0);
        x.go(1, 0);
        x.hold(1);
    }

    private static void slidesAlone(LanternPeople x) {
        Check.due("read", Check.read(x, "slide a 0 0 1;slide b 1 1 20;"), 0);
        x.tell(2, 20, true);
        x.weeks(1);
    }

    private static void one(LanternPeople x) {
        Check.due("read", Check.read(x, "slide a 3 3 7;person p 4;shown p a;"), 0);
        x.weeks(1);
    }

    private static void fullTape(LanternPeople x) {
        Check.feed(x, Check.bytes(Check.times("seed 77 ; ", 3) + Check.times(" ", 1963) + "seed 8;"));
    }

    private static void almostFullTape(LanternPeople x) {
        Check.feed(x, Check.bytes(Check.times(" ", 1960) + "person p 1;person q 2;"));
        x.back(1);
    }

    private static void allTold(LanternPeople x) {
        Check.due("read", Check.read(x, TEXT), 0);
        for (int i = 0; i < 20; i++) {
            x.tell(i % 4, i % 7, i % 3 > 0);
        }
    }

    private static void fortyDone(LanternPeople x) {
        Check.due("read", Check.read(x, "slide a 0 1 20;person p 1;person q 1;shown p a;fades=0;"), 0);
        for (int i = 0; i < 22; i++) {
            x.weeks(1);
            x.go(0, 1 - i % 2);
        }
    }

    public static void main(String[] args) {
        Twins.Past[] pasts = {RefusedTest::fresh, RefusedTest::busy, RefusedTest::faulty, RefusedTest::peopleAlone,
            RefusedTest::slidesAlone, RefusedTest::one, RefusedTest::fullTape, RefusedTest::almostFullTape,
            RefusedTest::allTold, RefusedTest::fortyDone};
        for (Twins.Past past : pasts) {
            tape(past);
            noPerson(past);
            noSlide(past);
            noTwo(past);
            noWhat(past);
            noWeeks(past);
            noSeat(past);
            noTold(past);
            noSlot(past);
            onlyAsked(past);
        }
        fullOnes();
        plainOnes();
        theirs();
        Check.end();
    }

    /** What is none of n: below 0, n, beyond. */
    private static int[] beyond(int n) {
        return new int[] {-1, -2, n, n + 1, LEAST, MOST};
    }

    private static void none(String call, Twins.Past past, Twins.Call refused) {
        Twins.unchanged(call, past, refused, -1);
    }

    private static void no(String call, Twins.Past past, Twins.Call refused) {
        Twins.unchanged(call, past, refused, 0);
    }

    private static void tape(Twins.Past past) {
        int bytes = Twins.after(past).count(8);
        Check.of("NONE, and nothing goes, if it has not so many, or n is below 0.");
        for (int n : beyond(bytes + 1)) {
            none("back(" + n + ")", past, x -> x.back(n));
        }
        Check.of("The last n bytes of the tape go: how many it has.");
        Twins.unchanged("back(0)", past, x -> x.back(0), bytes);
    }

    private static void noPerson(Twins.Past past) {
        for (int p : beyond(Twins.after(past).count(1))) {
            Check.of("Of a PERSON: what 0 WARM, 1 the PICTURE (-2: PLAIN), 2 SEAT, 3 JOINS, 4 PAYS, 5 WASHES now, 6 all GLOWS, added. "
                + "NONE for others.");
            for (int what = 0; what <= 6; what++) {
                int w = what;
                none("person(" + p + ", " + w + ")", past, x -> x.person(p, w));
            }
            Check.of("GLOW of a PERSON and a SLIDE; NONE: no such ones.");
            none("glow(" + p + ", 0)", past, x -> x.glow(p, 0));
            Check.of("what 0 TAKES, 1 FADES; NONE: no such ones.");
            none("tells(" + p + ", 0, 0)", past, x -> x.tells(p, 0, 0));
            none("tells(" + p + ", 0, 1)", past, x -> x.tells(p, 0, 1));
            Check.of("NONE, and nothing happens: no such ones.");
            none("show(" + p + ", 0)", past, x -> x.show(p, 0));
            Check.of("NONE, and nothing happens: PLAIN, no such PERSON.");
            none("wash(" + p + ")", past, x -> x.wash(p));
            Check.of("false, and nothing happens: it is theirs, no such ones.");
            no("go(" + p + ", 0)", past, x -> x.go(p, 0) ? 1 : 0);
            no("go(" + p + ", " + p + ")", past, x -> x.go(p, p) ? 1 : 0);
            Check.of("THROW: what 0 which, 1 how many; -2: no SLIDES; NONE: no such ones.");
            none("best(" + p + ", 0)", past, x -> x.best(p, 0));
            none("best(" + p + ", 1)", past, x -> x.best(p, 1));
            Check.of("PLACE: what 0 which, 1 how many; NONE: no such ones.");
            none("where(" + p + ", 0)", past, x -> x.where(p, 0));
            none("where(" + p + ", 1)", past, x -> x.where(p, 1));
            Check.of("PLAIN IN; -2: not; NONE: no such PERSON.");
            none("plainIn(" + p + ")", past, x -> x.plainIn(p));
            Check.of("TURNS; -2: not, PLAIN now; NONE: no such PERSON.");
            none("turns(" + p + ")", past, x -> x.turns(p));
            Check.of("LIKE (bits; PLAIN: 0); NONE: no such PERSON.");
            none("like(" + p + ")", past, x -> x.like(p));
            Check.of("SHARES (PLAIN: 0); NONE: no such PERSON.");
            none("share(" + p + ")", past, x -> x.share(p));
            Check.of("IN n WEEKS the PICTURE of a PERSON (-2: PLAIN); NONE: no such ones.");
            none("then(" + p + ", 0)", past, x -> x.then(p, 0));
            Check.of("YEAR; NONE: no such ones.");
            none("year(" + p + ", 1, 1)", past, x -> x.year(p, 1, 1));
        }
    }

    private static void noSlide(Twins.Past past) {
        for (int s : beyond(Twins.after(past).count(0))) {
            Check.of("Of a SLIDE: what 0 LEFT, 1 RIGHT, 2 BRIGHT, 3 whose PICTURE it is (bits). NONE for others.");
            for (int what = 0; what <= 3; what++) {
                int w = what;
                none("slide(" + s + ", " + w + ")", past, x -> x.slide(s, w));
            }
            Check.of("GLOW of a PERSON and a SLIDE; NONE: no such ones.");
            none("glow(0, " + s + ")", past, x -> x.glow(0, s));
            Check.of("what 0 TAKES, 1 FADES; NONE: no such ones.");
            none("tells(0, " + s + ", 0)", past, x -> x.tells(0, s, 0));
            none("tells(0, " + s + ", 1)", past, x -> x.tells(0, s, 1));
            Check.of("NONE, and nothing happens: no such ones.");
            none("show(0, " + s + ")", past, x -> x.show(0, s));
        }
    }

    private static void noTwo(Twins.Past past) {
        int people = Twins.after(past).count(1);
        for (int p : beyond(people)) {
            for (int q = 0; q <= people; q++) {
                int other = q;
                Check.of("1, 0; NONE: no such ones, one and the same.");
                none("join(" + p + ", " + q + ")", past, x -> x.join(p, other));
                none("join(" + q + ", " + p + ")", past, x -> x.join(other, p));
                Check.of("WAY (one and the same: 0); -2: there is none; NONE: no such ones.");
                none("way(" + p + ", " + q + ")", past, x -> x.way(p, other));
                none("way(" + q + ", " + p + ")", past, x -> x.way(other, p));
            }
            Check.of("1, 0; NONE: no such ones, one and the same.");
            none("join(" + p + ", " + p + ")", past, x -> x.join(p, p));
            Check.of("WAY (one and the same: 0); -2: there is none; NONE: no such ones.");
            none("way(" + p + ", " + p + ")", past, x -> x.way(p, p));
        }
        for (int p = 0; p < people; p++) {
            int same = p;
            Check.of("1, 0; NONE: no such ones, one and the same.");
            none("join(" + p + ", " + p + ")", past, x -> x.join(same, same));
            Check.of("WAY (one and the same: 0); -2: there is none; NONE: no such ones.");
            Twins.unchanged("way(" + p + ", " + p + ")", past, x -> x.way(same, same), 0);
        }
    }

    private static void noWhat(Twins.Past past) {
        Check.of("Of a SLIDE: what 0 LEFT, 1 RIGHT, 2 BRIGHT, 3 whose PICTURE it is (bits). NONE for others.");
        for (int what : beyond(4)) {
            none("slide(0, " + what + ")", past, x -> x.slide(0, what));
        }
        Check.of("5 WASHES now, 6 all GLOWS, added. NONE for others.");
        for (int what : beyond(7)) {
            none("person(0, " + what + ")", past, x -> x.person(0, what));
        }
        Check.of("17 how many are LONELY. NONE for others.");
        for (int what : beyond(18)) {
            none("count(" + what + ")", past, x -> x.count(what));
        }
        for (int what : beyond(2)) {
            Check.of("What a LAW tells of a PERSON and a SLIDE now: what 0 TAKES, 1 FADES; NONE: no such ones.");
            none("tells(0, 0, " + what + ")", past, x -> x.tells(0, 0, what));
            Check.of("GAME: what 0 who WINS, 1 whom (-2: none; the other WINS). NONE for others.");
            none("game(" + what + ")", past, x -> x.game(what));
            Check.of("THROW: what 0 which, 1 how many; -2: no SLIDES; NONE: no such ones.");
            none("best(0, " + what + ")", past, x -> x.best(0, what));
            Check.of("PLACE: what 0 which, 1 how many; NONE: no such ones.");
            none("where(0, " + what + ")", past, x -> x.where(0, what));
            Check.of("BRIGHTEST: what 0 who, 1 how much; -2: all are PLAIN. NONE for others.");
            none("brightest(" + what + ")", past, x -> x.brightest(what));
            Check.of("WHICH, as KNOWN by k: what 0 how many, 1 which (bits); NONE: no such ones.");
            none("which(0, " + what + ")", past, x -> x.which(0, what));
        }
    }

    private static void noWeeks(Twins.Past past) {
        for (int n : beyond(61)) {
            Check.of("NONE, and nothing happens: no such n.");
            none("weeks(" + n + ")", past, x -> x.weeks(n));
            Check.of("WORTH; NONE: no such n.");
            none("worth(" + n + ")", past, x -> x.worth(n));
            Check.of("IN n WEEKS the PICTURE of a PERSON (-2: PLAIN); NONE: no such ones.");
            none("then(0, " + n + ")", past, x -> x.then(0, n));
            Check.of("IN n WEEKS what was paid so far and by then; NONE: no such n.");
            none("paidIn(" + n + ")", past, x -> x.paidIn(n));
            Check.of("in how many of them a PERSON is PLAIN in n WEEKS (0 .. 60).");
            none("year(0, " + n + ", 1)", past, x -> x.year(0, n, 1));
        }
        Check.of("YEAR by s SEEDS (1 .. 20) from the text's SEED on");
        for (int s : new int[] {0, -1, -2, 21, 22, LEAST, MOST}) {
            none("year(0, 1, " + s + ")", past, x -> x.year(0, 1, s));
            none("year(0, 0, " + s + ")", past, x -> x.year(0, 0, s));
        }
        Check.of("n WEEKS (0 .. 60; 0 is no thing done) go by: which it is;");
        Twins.unchanged("weeks(0)", past, x -> x.weeks(0), Twins.after(past).count(2));
    }

    private static void noSeat(Twins.Past past) {
        LanternPeople probe = Twins.after(past);
        int people = probe.count(1);
        int longest = probe.longest(-1);
        for (int i : beyond(people)) {
            Check.of("Who is at a SEAT; NONE: no such SEAT.");
            none("seat(" + i + ")", past, x -> x.seat(i));
            Check.of("One goes to a SEAT: true; false, and nothing happens: it is theirs, no such ones.");
            no("go(0, " + i + ")", past, x -> x.go(0, i) ? 1 : 0);
            if (i != -1) {
                Check.of("BEST ROW: how many (i NONE), else who is at a SEAT; NONE: no such SEAT.");
                none("bestRow(" + i + ")", past, x -> x.bestRow(i));
                Check.of("-2: by none (i NONE or not); NONE: no such SEAT.");
                none("mend(" + i + ")", past, x -> x.mend(i));
            }
        }
        Check.of("LONGEST: how many (i NONE; no PEOPLE: 0), else the i-th; NONE: not so many.");
        for (int i : new int[] {-2, -3, LEAST, longest, longest + 1, 6, MOST}) {
            none("longest(" + i + ")", past, x -> x.longest(i));
        }
    }

    private static void noTold(Twins.Past past) {
        int told = Twins.after(past).count(10);
        Check.of("NONE, and nothing happens: 20 are there, no such mark, no such v.");
        for (int mark : beyond(4)) {
            none("tell(" + mark + ", 1, true)", past, x -> x.tell(mark, 1, true));
            none("tell(" + mark + ", 0, false)", past, x -> x.tell(mark, 0, false));
        }
        for (int v : beyond(21)) {
            none("tell(0, " + v + ", true)", past, x -> x.tell(0, v, true));
            none("tell(3, " + v + ", false)", past, x -> x.tell(3, v, false));
        }
        Check.of("LOOK by v (0 .. 20), as KNOWN by k; -2: none is left; NONE: no such ones.");
        for (int v : beyond(21)) {
            none("look(0, " + v + ")", past, x -> x.look(0, v));
        }
        for (int k : beyond(told + 1)) {
            Check.of("LOOK by v (0 .. 20), as KNOWN by k; -2: none is left; NONE: no such ones.");
            none("look(" + k + ", 1)", past, x -> x.look(k, 1));
            Check.of("WHICH, as KNOWN by k: what 0 how many, 1 which (bits); NONE: no such ones.");
            none("which(" + k + ", 0)", past, x -> x.which(k, 0));
            none("which(" + k + ", 1)", past, x -> x.which(k, 1));
        }
    }

    private static void noSlot(Twins.Past past) {
        for (int slot : beyond(3)) {
            Check.of("is held in a SLOT (0 .. 2): true; false: no such one.");
            no("hold(" + slot + ")", past, x -> x.hold(slot) ? 1 : 0);
            Check.of("true; false, and nothing happens: no such one, nothing is held.");
            no("restore(" + slot + ")", past, x -> x.restore(slot) ? 1 : 0);
        }
        for (int slot = 0; slot < 3; slot++) {
            int empty = slot;
            if (!Twins.after(past).restore(slot)) {
                no("restore(" + slot + ")", past, x -> x.restore(empty) ? 1 : 0);
            }
        }
        Check.of("is undone: true; false: there is none (the last 40 can be).");
        if (Twins.after(past).count(9) == 0) {
            no("undo()", past, x -> x.undo() ? 1 : 0);
        }
    }

    /** Asked in between, whatever is asked changes nothing of what is asked or done later. */
    private static void onlyAsked(Twins.Past past) {
        Check.of("What would be (nothing happens;");
        Twins.unchanged("bestRow", past, x -> x.bestRow(-1) + x.bestRow(0));
        Twins.unchanged("fullRows, rings", past, x -> x.fullRows() + x.rings());
        Twins.unchanged("longest", past, x -> x.longest(-1) + x.longest(0));
        Twins.unchanged("way", past, x -> x.way(0, 1));
        Twins.unchanged("mend", past, x -> x.mend(-1) + x.mend(0));
        Twins.unchanged("game", past, x -> x.game(0) + x.game(1));
        Twins.unchanged("best", past, x -> x.best(0, 0) + x.best(1, 1));
        Twins.unchanged("where", past, x -> x.where(0, 0) + x.where(1, 1));
        Twins.unchanged("worth", past, x -> x.worth(60));
        Twins.unchanged("plainIn, turns", past, x -> x.plainIn(0) + x.turns(0));
        Twins.unchanged("like, lonely", past, x -> x.like(0) + x.lonely());
        Twins.unchanged("brightest, open, share", past, x -> x.brightest(0) + x.open() + x.share(0));
        Twins.unchanged("then, paidIn", past, x -> x.then(0, 60) + x.paidIn(60));
        Twins.unchanged("year", past, x -> x.year(0, 60, 20));
        Twins.unchanged("look", past, x -> x.look(0, 5));
        Twins.unchanged("tells, join", past, x -> x.tells(0, 0, 0) + x.join(0, 1));
    }

    private static void fullOnes() {
        Check.of("NONE, and nothing comes, if it would have more than 2,000.");
        none("feed", RefusedTest::fullTape, x -> x.feed(0x3b3b3b3b, 0, -1, 7, 0x73656564));
        none("feed", RefusedTest::almostFullTape, x -> x.feed(0x3b202020, 0x20202020, 0x20202020, 0x20202020, 0x20202020));
        Check.of("NONE, and nothing happens: 20 are there, no such mark, no such v.");
        none("tell(0, 0, false)", RefusedTest::allTold, x -> x.tell(0, 0, false));
        none("tell(2, 20, true)", RefusedTest::allTold, x -> x.tell(2, 20, true));
    }

    private static void plainOnes() {
        Check.of("NONE, and nothing happens: PLAIN, no such PERSON.");
        none("wash(5)", RefusedTest::busy, x -> x.wash(5));
        none("wash(0)", RefusedTest::peopleAlone, x -> x.wash(0));
        none("wash(1)", RefusedTest::fortyDone, x -> x.wash(1));
    }

    private static void theirs() {
        Check.of("false, and nothing happens: it is theirs, no such ones.");
        for (int seat = 0; seat < 6; seat++) {
            int at = seat;
            no("go to their own " + seat, RefusedTest::busy, x -> x.go(x.seat(at), at) ? 1 : 0);
        }
        no("go of one alone", RefusedTest::one, x -> x.go(0, 0) ? 1 : 0);
    }
}
