/** Edges of promises 17 to 25 and of the rows of part III, sentence by sentence. */
public final class RowEdgesTest {
    private static final String SIX = "person p 0;person q 0;person r 0;person s 0;person t 0;person u 0;";
    private static final String ALL_X = "shown p x;shown q x;shown r x;shown s x;shown t x;shown u x;";
    /** Six that join with all others. */
    private static final String SAME = "slide x 3 3 5;" + SIX + ALL_X;
    /** Six that join with nobody. */
    private static final String APART = "slide x 3 4 5;" + SIX + ALL_X;
    private static final String PLAIN = "slide x 3 3 5;" + SIX;
    private static final String NO_SLIDES = SIX;
    private static final String ONE = "slide w 0 1 5;slide x 3 3 5;person p 0;";
    private static final String ONE_SHOWN = ONE + "shown p x;";
    /** u, t, s, r, q join in this order alone; p is plain. */
    private static final String CHAIN = "slide a 0 1 5;slide b 1 2 5;slide c 2 3 5;slide d 3 4 5;slide e 4 5 5;" + SIX
        + "shown u a;shown t b;shown s c;shown r d;shown q e;";

    private RowEdgesTest() { }

    public static void main(String[] args) {
        bestRow();
        bestOfAlikeOnes();
        fullRows();
        rings();
        longest();
        longestOfAlikeOnes();
        way();
        mendHowFew();
        mendByNone();
        mendAlone();
        mendLowest();
        gameEnds();
        gameLowest();
        throwEdges();
        placeEdges();
        askedAgain();
        askedOneAfterAnother();
        Check.end();
    }

    private static void rowIs(LanternPeople x, int... who) {
        for (int i = 0; i < who.length; i++) {
            Check.due("bestRow(" + i + ")", x.bestRow(i), who[i]);
        }
    }

    private static void bestRow() {
        Check.of("BEST ROW: how many (i NONE), else who is at a SEAT; NONE: no such SEAT.");
        LanternPeople none = new LanternPeople();
        Check.due("nobody", none.bestRow(-1), 0);
        Check.due("nobody", none.bestRow(0), -1);
        LanternPeople one = Check.village(ONE);
        Check.due("one plain", one.bestRow(-1), 0);
        Check.due("one plain", one.bestRow(0), 0);
        Check.due("one plain", one.bestRow(1), -1);
        LanternPeople six = Check.village(SAME);
        Check.due("six", six.bestRow(-1), 5);
        rowIs(six, 0, 1, 2, 3, 4, 5);
        Check.due("six", six.bestRow(6), -1);
        LanternPeople apart = Check.village(APART);
        Check.due("apart", apart.bestRow(-1), 0);
        rowIs(apart, 0, 1, 2, 3, 4, 5);
        LanternPeople chain = Check.village(CHAIN);
        Check.due("chain", chain.bestRow(-1), 4);
        rowIs(chain, 0, 5, 4, 3, 2, 1);
        Check.due("as they stand", chain.count(3), 0);
    }

    private static void bestOfAlikeOnes() {
        Check.of("who is at the i-th SEAT, of alike ones the lowest first, then the next one.");
        // p and q join either way, r with nobody: p q r, q p r, r p q and r q p are alike.
        LanternPeople x = Check.village("slide x 0 1 5;slide y 1 0 5;slide z 2 3 5;person p 0;person q 0;person r 0;"
            + "shown p x;shown q y;shown r z;");
        Check.due("one", x.bestRow(-1), 1);
        rowIs(x, 0, 1, 2);
        x.go(2, 0);
        rowIs(x, 0, 1, 2);
        // q p alone joins, r may be ahead or behind or neither: q p r comes ahead of r q p.
        LanternPeople y = Check.village("slide x 0 1 5;slide y 1 2 5;slide z 4 3 5;person p 0;person q 0;person r 0;"
            + "shown p y;shown q x;shown r z;");
        Check.due("one", y.bestRow(-1), 1);
        rowIs(y, 1, 0, 2);
        // r joins with q and with p, these with nobody: p r q, not q r p, r p q or r q p.
        LanternPeople z = Check.village("slide x 1 2 5;slide y 0 1 5;person p 0;person q 0;person r 0;shown p x;shown q x;shown r y;");
        Check.due("one", z.bestRow(-1), 1);
        rowIs(z, 0, 2, 1);
    }

    private static void fullRows() {
        Check.of("FULL ROWS (no PEOPLE: 1).");
        Check.due("nobody", new LanternPeople().fullRows(), 1);
        Check.due("slides alone", Check.village("slide a 0 0 1;").fullRows(), 1);
        Check.due("one", Check.village(ONE_SHOWN).fullRows(), 1);
        Check.due("one plain", Check.village(ONE).fullRows(), 1);
        Check.due("six", Check.village(SAME).fullRows(), 720);
        Check.due("six apart", Check.village(APART).fullRows(), 0);
        Check.due("six plain", Check.village(PLAIN).fullRows(), 0);
        Check.due("six without slides", Check.village(NO_SLIDES).fullRows(), 0);
        Check.due("five in a chain and one plain", Check.village(CHAIN).fullRows(), 0);
        LanternPeople x = Check.village(CHAIN);
        x.show(0, 4);
        Check.due("two at its end", x.fullRows(), 0);
        LanternPeople five = Check.village(CHAIN.replace("person p 0;", ""));
        Check.due("five in a chain", five.fullRows(), 1);
    }

    private static void rings() {
        Check.of("RINGS: in how many of these (of two PEOPLE or more) the last one JOINS with the first one, too.");
        Check.due("nobody", new LanternPeople().rings(), 0);
        Check.due("one, who would join with another of the same", Check.village(ONE_SHOWN).rings(), 0);
        Check.due("one plain", Check.village(ONE).rings(), 0);
        Check.due("six", Check.village(SAME).rings(), 720);
        Check.due("six apart", Check.village(APART).rings(), 0);
        Check.due("six plain", Check.village(PLAIN).rings(), 0);
        Check.due("five in a chain", Check.village(CHAIN.replace("person p 0;", "")).rings(), 0);
        Check.due("five in a ring", Check.village(CHAIN.replace("person p 0;", "").replace("4 5 5", "4 0 5")).rings(), 5);
        Check.due("two of the same", Check.village("slide x 3 3 5;person p 0;person q 0;shown p x;shown q x;").rings(), 2);
        Check.due("two, one way", Check.village("slide x 3 4 5;slide y 4 5 1;person p 0;person q 0;shown p x;shown q y;").rings(), 0);
    }

    private static void longest() {
        Check.of("LONGEST: how many (i NONE; no PEOPLE: 0), else the i-th; NONE: not so many.");
        LanternPeople none = new LanternPeople();
        Check.due("nobody", none.longest(-1), 0);
        Check.due("nobody", none.longest(0), -1);
        LanternPeople six = Check.village(SAME);
        Check.due("six", six.longest(-1), 6);
        Check.due("the last", six.longest(5), 5);
        Check.due("not so many", six.longest(6), -1);
        LanternPeople chain = Check.village(CHAIN);
        Check.due("chain", chain.longest(-1), 5);
        for (int i = 0; i < 5; i++) {
            Check.due("chain", chain.longest(i), 5 - i);
        }
        Check.due("not so many", chain.longest(5), -1);
        Check.of("(a PLAIN one stands alone)");
        LanternPeople plain = Check.village(PLAIN);
        Check.due("plain", plain.longest(-1), 1);
        Check.due("plain", plain.longest(0), 0);
        Check.due("plain", plain.longest(1), -1);
        Check.due("without slides", Check.village(NO_SLIDES).longest(-1), 1);
        LanternPeople one = Check.village(ONE);
        Check.due("one plain", one.longest(-1), 1);
        Check.due("one plain", one.longest(0), 0);
        LanternPeople apart = Check.village(APART);
        Check.due("apart", apart.longest(-1), 1);
        Check.due("apart", apart.longest(0), 0);
    }

    private static void longestOfAlikeOnes() {
        Check.of("how many; who is the i-th, of alike ones the lowest first, then the next one.");
        // r joins with q and with p: r p.
        LanternPeople x = Check.village("slide x 1 2 5;slide y 0 1 5;person p 0;person q 0;person r 0;shown p x;shown q x;shown r y;");
        Check.due("two", x.longest(-1), 2);
        Check.due("the first", x.longest(0), 2);
        Check.due("the next", x.longest(1), 0);
        // q and r join with p: q p.
        LanternPeople y = Check.village("slide x 0 1 5;slide y 1 2 5;person p 0;person q 0;person r 0;shown p y;shown q x;shown r x;");
        Check.due("two", y.longest(-1), 2);
        Check.due("the first", y.longest(0), 1);
        Check.due("the next", y.longest(1), 0);
        // A plain one ahead of all does not stand in it.
        LanternPeople z = Check.village("slide x 3 3 5;person p 0;person q 0;person r 0;shown q x;shown r x;");
        Check.due("two", z.longest(-1), 2);
        Check.due("the first", z.longest(0), 1);
        Check.due("the next", z.longest(1), 2);
    }

    private static void way() {
        Check.of("WAY (one and the same: 0); -2: there is none; NONE: no such ones.");
        LanternPeople chain = Check.village(CHAIN);
        for (int p = 0; p < 6; p++) {
            for (int q = 0; q < 6; q++) {
                int due = p == q ? 0 : p == 0 || q == 0 || p < q ? -2 : p - q;
                Check.due("way(" + p + ", " + q + ")", chain.way(p, q), due);
            }
        }
        LanternPeople ring = Check.village(CHAIN.replace("4 5 5", "4 0 5"));
        Check.due("round the ring", ring.way(1, 2), 4);
        Check.due("round the ring", ring.way(2, 1), 1);
        Check.due("six of the same", Check.village(SAME).way(5, 0), 1);
        Check.due("apart", Check.village(APART).way(0, 1), -2);
        Check.due("one plain", Check.village(ONE).way(0, 0), 0);
        Check.due("one plain", Check.village(ONE).way(0, 1), -1);
        Check.due("without slides", Check.village(NO_SLIDES).way(0, 5), -2);
        // t and u both show e, which goes on in itself, too.
        LanternPeople six = Check.village("slide a 0 1 5;slide b 1 2 5;slide c 2 3 5;slide d 3 4 5;slide e 4 4 5;" + SIX
            + "shown p a;shown q b;shown r c;shown s d;shown t e;shown u e;");
        Check.due("t and u are as near", six.way(0, 5), 4);
        Check.due("t and u are as near", six.way(0, 4), 4);
        Check.of("by how few JOINS, each from a PERSON on the left to one on the right of them, wherever they stand");
        chain.go(5, 0);
        chain.go(1, 3);
        Check.due("elsewhere", chain.way(5, 1), 4);
    }

    private static void mendHowFew() {
        Check.of("(No PEOPLE: 0.)");
        Check.due("nobody", new LanternPeople().mend(-1), 0);
        Check.due("nobody", new LanternPeople().mend(0), -1);
        Check.due("slides alone", Check.village("slide a 0 1 5;").mend(-1), 0);
        Check.of("MEND: how few (i NONE), else which SLIDE at the i-th SEAT;");
        LanternPeople one = Check.village("slide a 0 1 5;slide b 1 0 5;person p 0;person q 0;shown p a;shown q a;");
        Check.due("how few", one.mend(-1), 1);
        Check.due("at the first", one.mend(0), 0);
        Check.due("at the last", one.mend(1), 1);
        Check.due("beyond", one.mend(2), -1);
        Check.of("(PLAIN ones: of none)");
        LanternPeople plain = Check.village(PLAIN);
        Check.due("all six", plain.mend(-1), 6);
        Check.due("the last seat", plain.mend(5), 0);
        Check.due("no seat", plain.mend(6), -1);
        LanternPeople same = Check.village(SAME);
        Check.due("none", same.mend(-1), 0);
        Check.due("as it is", same.mend(5), 0);
        LanternPeople some = Check.village("slide x 3 3 5;" + SIX + "shown p x;shown r x;shown t x;");
        Check.due("three of six", some.mend(-1), 3);
    }

    private static void mendByNone() {
        Check.of("-2: by none (i NONE or not); NONE: no such SEAT.");
        LanternPeople apart = Check.village(APART);
        Check.due("how few", apart.mend(-1), -2);
        for (int i = 0; i < 6; i++) {
            Check.due("at seat " + i, apart.mend(i), -2);
        }
        Check.due("no seat", apart.mend(6), -1);
        Check.due("no seat", apart.mend(-2), -1);
        LanternPeople bare = Check.village(NO_SLIDES);
        Check.due("no slides", bare.mend(-1), -2);
        Check.due("no slides", bare.mend(0), -2);
        Check.due("no slides, no seat", bare.mend(6), -1);
        // Five slides make a row of five; six in a row have none.
        LanternPeople six = Check.village(CHAIN);
        Check.due("six", six.mend(-1), -2);
        LanternPeople five = Check.village(CHAIN.replace("person p 0;", ""));
        Check.due("five, all but the one in the middle", five.mend(-1), 4);
        for (int i = 0; i < 5; i++) {
            Check.due("at seat " + i, five.mend(i), i);
        }
    }

    private static void mendAlone() {
        Check.of("so that all side by side in the ROW JOIN (one alone: not PLAIN)");
        LanternPeople plain = Check.village(ONE);
        Check.due("plain", plain.mend(-1), 1);
        Check.due("the lowest", plain.mend(0), 0);
        Check.due("no seat", plain.mend(1), -1);
        LanternPeople shown = Check.village(ONE_SHOWN);
        Check.due("not plain", shown.mend(-1), 0);
        Check.due("what is there", shown.mend(0), 1);
        LanternPeople bare = Check.village("person p 0;");
        Check.due("no slides", bare.mend(-1), -2);
        Check.due("no slides", bare.mend(0), -2);
        Check.due("no slides, no seat", bare.mend(1), -1);
    }

    private static void mendLowest() {
        Check.of("of as few the lowest SLIDE at the first SEAT, then at the next one.");
        // b b, c c would do for a plain row, and a with nothing behind it: the lowest at the first seat that can.
        LanternPeople x = Check.village("slide a 0 1 5;slide b 2 2 5;slide c 3 3 5;person p 0;person q 0;");
        Check.due("two", x.mend(-1), 2);
        Check.due("first", x.mend(0), 1);
        Check.due("next", x.mend(1), 1);
        // a goes on in b and in c: the lower of them.
        LanternPeople y = Check.village("slide a 0 1 5;slide b 1 2 5;slide c 1 3 5;person p 0;person q 0;");
        Check.due("first", y.mend(0), 0);
        Check.due("next", y.mend(1), 1);
        // q shows c already: a c costs one, a b two.
        y.show(1, 2);
        Check.due("one", y.mend(-1), 1);
        Check.due("first", y.mend(0), 0);
        Check.due("next", y.mend(1), 2);
        // By the row as it stands, not by the numbers of the people.
        y.go(1, 0);
        Check.due("c goes on in none", y.mend(-1), 2);
        Check.due("first", y.mend(0), 0);
        Check.due("next", y.mend(1), 1);
    }

    private static void gameEnds() {
        Check.of("who can not loses: who WINS (1 the first, 2 the other);");
        Check.due("nobody", new LanternPeople().game(0), 2);
        Check.due("one", Check.village(ONE_SHOWN).game(0), 1);
        Check.due("six of the same", Check.village(SAME).game(0), 2);
        Check.due("apart", Check.village(APART).game(0), 1);
        Check.of("put a PERSON, not PLAIN, not put yet, at the right end of a new row, who JOINS with the last there (if there is one);");
        Check.due("six plain", Check.village(PLAIN).game(0), 2);
        Check.due("one plain", Check.village(ONE).game(0), 2);
        Check.due("without slides", Check.village(NO_SLIDES).game(0), 2);
        Check.of("GAME: what 0 who WINS, 1 whom (-2: none; the other WINS).");
        Check.due("nobody", new LanternPeople().game(1), -2);
        Check.due("one", Check.village(ONE_SHOWN).game(1), 0);
        Check.due("six of the same", Check.village(SAME).game(1), -2);
        Check.due("six plain", Check.village(PLAIN).game(1), -2);
    }

    private static void gameLowest() {
        Check.of("whom the first puts at first, of all by whom the first WINS the lowest.");
        Check.due("apart", Check.village(APART).game(1), 0);
        // The chain's end is q: behind it nobody can be put. p, the lowest, is plain.
        Check.due("chain", Check.village(CHAIN).game(1), 1);
        // With q plain, too, r is the chain's end.
        LanternPeople x = Check.village(CHAIN);
        x.wash(1);
        x.wash(1);
        x.wash(1);
        Check.due("without q", x.game(1), 2);
        Check.due("first", x.game(0), 1);
        // A plain one is the lowest, but can not be put.
        LanternPeople y = Check.village("slide x 3 4 5;person p 0;person q 0;shown q x;");
        Check.due("not the plain one", y.game(1), 1);
    }

    private static void throwEdges() {
        Check.of("THROW: what 0 which, 1 how many; -2: no SLIDES; NONE: no such ones.");
        LanternPeople bare = Check.village(NO_SLIDES);
        for (int what = 0; what < 2; what++) {
            Check.due("no slides", bare.best(0, what), -2);
            Check.due("no slides", bare.best(5, what), -2);
            Check.due("no slides, nobody", bare.best(6, what), -1);
            Check.due("no people", new LanternPeople().best(0, what), -1);
        }
        Check.due("no slides, what", bare.best(0, 2), -1);
        LanternPeople one = Check.village(ONE);
        Check.due("one", one.best(0, 0), 0);
        Check.due("one", one.best(0, 1), 0);
        Check.of("the SLIDE by which, THROWN upon them now, most in the ROW JOIN, of alike ones the first; how many.");
        // q between two: c alone joins with both.
        LanternPeople x = Check.village("slide a 0 1 5;slide b 1 5 5;slide c 1 0 5;slide d 1 0 9;person p 0;person q 0;person r 0;"
            + "shown p a;shown r a;");
        Check.due("c, ahead of d", x.best(1, 0), 2);
        Check.due("both", x.best(1, 1), 2);
        // Thrown once more does not show yet: b glows more than what each of the others takes, so all are alike.
        LanternPeople y = Check.village("slide a 0 1 1;slide b 1 1 20;slide c 1 0 1;person p 0;person q 0;shown p a;shown q b;");
        Check.due("the first", y.best(1, 0), 0);
        Check.due("as it is", y.best(1, 1), 1);
        Check.due("fewer by throwing b", y.best(0, 1), 1);
    }

    private static void placeEdges() {
        Check.of("PLACE of a PERSON: the SEAT to which, going there (or staying), most in the ROW JOIN, of alike ones the first; how many.");
        LanternPeople one = Check.village(ONE);
        Check.due("one", one.where(0, 0), 0);
        Check.due("one", one.where(0, 1), 0);
        LanternPeople same = Check.village(SAME);
        for (int p = 0; p < 6; p++) {
            Check.due("all alike", same.where(p, 0), 0);
            Check.due("all alike", same.where(p, 1), 5);
        }
        LanternPeople plain = Check.village(PLAIN);
        Check.due("plain", plain.where(5, 0), 0);
        Check.due("plain", plain.where(5, 1), 0);
        Check.due("without slides", Check.village(NO_SLIDES).where(5, 0), 0);
        Check.due("nobody", new LanternPeople().where(0, 0), -1);
        // p joins behind r alone: at the last seat; q, plain, best stays between nobody.
        LanternPeople x = Check.village("slide a 0 1 5;slide b 1 2 5;person p 0;person q 0;person r 0;shown p b;shown r a;");
        Check.due("the last seat", x.where(0, 0), 2);
        Check.due("the last seat", x.where(0, 1), 1);
        Check.due("the first seat", x.where(2, 0), 0);
        Check.due("the first seat", x.where(2, 1), 1);
        x.go(0, 2);
        // q r p: staying is best, and for q too, at either end.
        Check.due("staying", x.where(0, 0), 2);
        Check.due("q at the first", x.where(1, 0), 0);
        Check.due("q at the first", x.where(1, 1), 1);
    }

    /** What was asked before, of how it was before, is never in the answer. */
    private static void askedAgain() {
        Check.of("What would be (nothing happens;");
        LanternPeople x = Check.village("slide x 3 3 5;person p 0;person q 0;person r 0;shown p x;shown q x;shown r x;fades=5;");
        for (int i = 0; i < 2; i++) {
            Check.due("full rows", x.fullRows(), 6);
            Check.due("rings", x.rings(), 6);
            Check.due("best row", x.bestRow(-1), 2);
            Check.due("longest", x.longest(-1), 3);
            Check.due("way", x.way(2, 0), 1);
            Check.due("game", x.game(0), 1);
            Check.due("mend", x.mend(-1), 0);
            Check.due("how many two", x.count(14), 6);
            Check.due("lonely", x.lonely(), 0);
        }
        x.weeks(1);
        for (int i = 0; i < 2; i++) {
            Check.due("full rows of plain ones", x.fullRows(), 0);
            Check.due("rings of plain ones", x.rings(), 0);
            Check.due("best row of plain ones", x.bestRow(-1), 0);
            Check.due("longest of plain ones", x.longest(-1), 1);
            Check.due("way of plain ones", x.way(2, 0), -2);
            Check.due("game of plain ones", x.game(0), 2);
            Check.due("whom of plain ones", x.game(1), -2);
            Check.due("mend of plain ones", x.mend(-1), 3);
            Check.due("how many two", x.count(14), 0);
            Check.due("lonely", x.lonely(), 7);
        }
        Check.due("undo", x.undo(), true);
        Check.due("full rows", x.fullRows(), 6);
        Check.due("no people any more", x.read(), 0);
        Check.due("full rows", x.fullRows(), 1);
        Check.due("longest", x.longest(-1), 0);
        Check.due("best row", x.bestRow(-1), 0);
        Check.due("lonely", x.lonely(), 0);
    }

    private static void askedOneAfterAnother() {
        // Three pairs: three joins in the best row, but no more than two in a row that joins.
        LanternPeople x = Check.village("slide a 0 1 5;slide b 1 2 5;slide c 3 4 5;slide d 4 5 5;" + SIX
            + "shown p a;shown q b;shown r a;shown s b;shown t c;shown u d;");
        for (int i = 0; i < 2; i++) {
            Check.due("best row", x.bestRow(-1), 3);
            rowIs(x, 0, 1, 2, 3, 4, 5);
            Check.due("longest", x.longest(-1), 2);
            Check.due("longest", x.longest(1), 1);
            Check.due("full rows", x.fullRows(), 0);
            Check.due("rings", x.rings(), 0);
        }
    }
}
