/** Promises 17 to 25: rows, ways, mending, the game, the best throw and place. */
public final class RowsTest {
    private static final String RING = SceneTest.RING;
    /** p shows c, q shows a, r shows b, s is plain: q, r, p join in this order. */
    private static final String CHAIN = "slide a 1 2 9;slide b 2 3 9;slide c 3 4 9;"
        + "person p 0;person q 0;person r 0;person s 0;shown p c;shown q a;shown r b;";
    /** Two that join either way. */
    private static final String PAIR = "slide x 0 1 5;slide y 1 0 5;person p 0;person q 0;shown p x;shown q y;";
    private static final String SAME = "slide x 3 3 5;person p 0;person q 0;person r 0;shown p x;shown q x;shown r x;";

    private RowsTest() { }

    public static void main(String[] args) {
        bestRow();
        fullRows();
        rings();
        longest();
        way();
        mend();
        mendLowest();
        game();
        best();
        where();
        nothingHappens();
        Check.end();
    }

    private static LanternPeople six(String more) {
        return Check.village("slide x 3 3 5;person p 0;person q 0;person r 0;person s 0;person t 0;person u 0;"
            + "shown p x;shown q x;shown r x;shown s x;shown t x;" + more);
    }

    private static void bestRow() {
        LanternPeople x = Check.village(CHAIN);
        Check.due("in the row", x.count(3), 1);
        Check.due("bestRow", x.bestRow(-1), 2);
        Check.due("bestRow(0)", x.bestRow(0), 1);
        Check.due("bestRow(1)", x.bestRow(1), 2);
        Check.due("bestRow(2)", x.bestRow(2), 0);
        Check.due("bestRow(3)", x.bestRow(3), 3);
        Check.due("no seat", x.bestRow(4), -1);
        Check.due("no seat", x.bestRow(-2), -1);
        x.go(0, 2);
        Check.due("however they stand", x.bestRow(0), 1);
        // q joins with p and with r, one of them: the lowest row is as they were told.
        LanternPeople fork = Check.village("slide a 1 2 9;slide b 2 3 9;person p 0;person q 0;person r 0;"
            + "shown p b;shown q a;shown r b;");
        Check.due("fork", fork.bestRow(-1), 1);
        Check.due("fork(0)", fork.bestRow(0), 0);
        Check.due("fork(1)", fork.bestRow(1), 1);
        Check.due("fork(2)", fork.bestRow(2), 2);
        LanternPeople plain = Check.village("person p 0;person q 1;");
        Check.due("plain", plain.bestRow(-1), 0);
        Check.due("plain(1)", plain.bestRow(1), 1);
        LanternPeople most = six("");
        Check.due("five join, one is plain", most.bestRow(-1), 4);
        Check.due("the lowest", most.bestRow(5), 5);
    }

    private static void fullRows() {
        Check.due("nobody", new LanternPeople().fullRows(), 1);
        Check.due("one plain", Check.village("person p 0;").fullRows(), 1);
        Check.due("ring and a plain one", Check.village(RING).fullRows(), 0);
        Check.due("pair", Check.village(PAIR).fullRows(), 2);
        Check.due("same", Check.village(SAME).fullRows(), 6);
        Check.due("six", six("shown u x;").fullRows(), 720);
        LanternPeople x = Check.village(CHAIN);
        Check.due("chain and a plain one", x.fullRows(), 0);
        // s then shows c, too: q, r, then p or s.
        x.show(3, 2);
        Check.due("c and c do not join", x.fullRows(), 0);
        LanternPeople ring = Check.village(RING);
        ring.show(3, 0);
        // ann and dot show the same, which does not join with itself: bob and cyd stand between them, either first.
        Check.due("two of one sort", ring.fullRows(), 2);
    }

    private static void rings() {
        Check.due("nobody", new LanternPeople().rings(), 0);
        Check.due("one", Check.village("slide x 3 3 5;person p 0;shown p x;").rings(), 0);
        Check.due("pair", Check.village(PAIR).rings(), 2);
        Check.due("same", Check.village(SAME).rings(), 6);
        Check.due("six", six("shown u x;").rings(), 720);
        Check.due("ring and a plain one", Check.village(RING).rings(), 0);
        String three = RING.replace("person dot 5;", "");
        Check.due("ring", Check.village(three).rings(), 3);
        Check.due("ring", Check.village(three).fullRows(), 3);
        String open = "slide a 1 2 9;slide b 2 3 9;person p 0;person q 0;shown p a;shown q b;";
        Check.due("a row that is open", Check.village(open).fullRows(), 1);
        Check.due("a row that is open", Check.village(open).rings(), 0);
    }

    private static void longest() {
        LanternPeople x = Check.village(CHAIN);
        Check.due("longest", x.longest(-1), 3);
        Check.due("longest(0)", x.longest(0), 1);
        Check.due("longest(1)", x.longest(1), 2);
        Check.due("longest(2)", x.longest(2), 0);
        Check.due("not so many", x.longest(3), -1);
        Check.due("not so many", x.longest(-2), -1);
        LanternPeople fork = Check.village("slide a 1 2 9;slide b 2 3 9;person p 0;person q 0;person r 0;"
            + "shown p b;shown q a;shown r b;");
        Check.due("fork", fork.longest(-1), 2);
        Check.due("fork(0)", fork.longest(0), 1);
        Check.due("fork(1)", fork.longest(1), 0);
        LanternPeople plain = Check.village("person p 0;person q 1;");
        Check.due("plain", plain.longest(-1), 1);
        Check.due("plain(0)", plain.longest(0), 0);
        Check.due("plain(1)", plain.longest(1), -1);
        Check.due("nobody", new LanternPeople().longest(-1), 0);
    }

    private static void way() {
        LanternPeople x = Check.village(RING);
        Check.due("0 1", x.way(0, 1), 1);
        Check.due("0 2", x.way(0, 2), 2);
        Check.due("2 1", x.way(2, 1), 2);
        Check.due("same", x.way(0, 0), 0);
        Check.due("plain and same", x.way(3, 3), 0);
        Check.due("to a plain one", x.way(0, 3), -2);
        Check.due("from a plain one", x.way(3, 0), -2);
        Check.due("nobody", x.way(0, 4), -1);
        Check.due("nobody", x.way(-1, 0), -1);
        Check.due("nobody, same", x.way(4, 4), -1);
        LanternPeople chain = Check.village(CHAIN);
        Check.due("chain", chain.way(1, 0), 2);
        Check.due("not back", chain.way(0, 1), -2);
        LanternPeople far = Check.village("slide a 0 1 9;slide b 1 2 9;slide c 2 3 9;slide d 3 4 9;slide e 4 5 9;"
            + "person p 0;person q 0;person r 0;person s 0;person t 0;shown p e;shown q d;shown r c;shown s b;shown t a;");
        Check.due("far", far.way(4, 0), 4);
        LanternPeople near = Check.village("slide a 0 1 9;slide b 1 2 9;slide c 2 3 9;slide d 1 3 9;slide e 3 4 9;"
            + "person p 0;person q 0;person r 0;person s 0;person t 0;shown p a;shown q b;shown r c;shown s d;shown t e;");
        Check.due("the nearest", near.way(0, 4), 2);
        LanternPeople twoWays = Check.village("slide a 0 1 9;slide b 1 2 9;slide c 2 3 9;"
            + "person p 0;person q 0;person r 0;person s 0;shown p a;shown q b;shown r b;shown s c;");
        Check.due("by either of two", twoWays.way(0, 3), 2);
    }

    private static void mend() {
        LanternPeople x = Check.village(RING);
        Check.due("mend", x.mend(-1), 1);
        Check.due("mend(0)", x.mend(0), 0);
        Check.due("mend(1)", x.mend(1), 1);
        Check.due("mend(2)", x.mend(2), 2);
        Check.due("mend(3)", x.mend(3), 0);
        Check.due("no seat", x.mend(4), -1);
        Check.due("no seat", x.mend(-2), -1);
        Check.due("nobody", new LanternPeople().mend(-1), 0);
        Check.due("nobody", new LanternPeople().mend(0), -1);
        LanternPeople one = Check.village("slide a 0 1 9;slide b 2 3 9;person p 0;");
        Check.due("one alone, plain", one.mend(-1), 1);
        Check.due("one alone, plain", one.mend(0), 0);
        one.show(0, 1);
        Check.due("one alone", one.mend(-1), 0);
        Check.due("one alone", one.mend(0), 1);
        LanternPeople never = Check.village("slide a 0 1 9;slide b 2 3 9;person p 0;person q 0;shown p a;shown q b;");
        Check.due("by none", never.mend(-1), -2);
        Check.due("by none", never.mend(1), -2);
        Check.due("by none, no seat", never.mend(2), -1);
        LanternPeople bare = Check.village("person p 0;");
        Check.due("no slides", bare.mend(-1), -2);
        Check.due("no slides", bare.mend(0), -2);
    }

    private static void mendLowest() {
        // p shows a, q shows c; a b or b c would do: the lowest at the first seat.
        String three = "slide a 0 1 9;slide b 1 2 9;slide c 2 3 9;person p 0;person q 0;shown p a;shown q c;";
        LanternPeople x = Check.village(three);
        Check.due("mend", x.mend(-1), 1);
        Check.due("mend(0)", x.mend(0), 0);
        Check.due("mend(1)", x.mend(1), 1);
        x.go(0, 1);
        Check.due("both", x.mend(-1), 2);
        Check.due("both(0)", x.mend(0), 0);
        Check.due("both(1)", x.mend(1), 1);
        // Fewest first, though a lower slide would fit at the first seat.
        LanternPeople y = Check.village("slide a 1 1 9;slide b 0 0 9;person p 0;person q 0;person r 0;"
            + "shown p a;shown q b;shown r b;");
        Check.due("fewest", y.mend(-1), 1);
        Check.due("fewest(0)", y.mend(0), 1);
        Check.due("fewest(2)", y.mend(2), 1);
    }

    private static void game() {
        LanternPeople ring = Check.village(RING);
        Check.due("three in a ring", ring.game(0), 1);
        Check.due("whom", ring.game(1), 0);
        Check.due("others", ring.game(2), -1);
        Check.due("others", ring.game(-1), -1);
        LanternPeople pair = Check.village(PAIR);
        Check.due("pair", pair.game(0), 2);
        Check.due("whom", pair.game(1), -2);
        // p joins with q alone: who begins puts q.
        LanternPeople two = Check.village("slide a 1 2 9;slide b 2 3 9;person p 0;person q 0;shown p a;shown q b;");
        Check.due("two", two.game(0), 1);
        Check.due("whom", two.game(1), 1);
        Check.due("same", Check.village(SAME).game(0), 1);
        Check.due("six of the same", six("shown u x;").game(0), 2);
        Check.due("five of the same", six("").game(0), 1);
        LanternPeople plain = Check.village("person p 0;");
        Check.due("plain", plain.game(0), 2);
        Check.due("plain", plain.game(1), -2);
    }

    private static void best() {
        LanternPeople x = Check.village(RING);
        Check.due("dot", x.best(3, 0), 0);
        Check.due("dot", x.best(3, 1), 3);
        Check.due("ann", x.best(0, 0), 0);
        Check.due("ann", x.best(0, 1), 2);
        // The sun would be brighter on bob than the sea that joins.
        Check.due("bob", x.best(1, 0), 1);
        Check.due("bob", x.best(1, 1), 2);
        Check.due("others", x.best(0, 2), -1);
        Check.due("others", x.best(0, -1), -1);
        Check.due("nobody", x.best(4, 0), -1);
        LanternPeople bare = Check.village("person p 0;");
        Check.due("no slides", bare.best(0, 0), -2);
        Check.due("no slides", bare.best(0, 1), -2);
        Check.due("no slides, nobody", bare.best(1, 0), -1);
        Check.due("no slides, others", bare.best(0, 2), -1);
        // By what TAKES tells, nothing shows yet: all are alike.
        LanternPeople none = Check.village(RING.replace("shown cyd owl;", "") + "takes=if seat<2 then bright else which*0;");
        Check.due("none takes", none.best(2, 0), 0);
        Check.due("none takes", none.best(2, 1), 1);
    }

    private static void where() {
        LanternPeople x = Check.village(RING);
        Check.due("dot", x.where(3, 0), 0);
        Check.due("dot", x.where(3, 1), 2);
        Check.due("bob", x.where(1, 0), 1);
        Check.due("bob", x.where(1, 1), 2);
        x.go(0, 1);
        Check.due("ann", x.where(0, 0), 0);
        Check.due("ann", x.where(0, 1), 2);
        Check.due("dot", x.where(3, 1), 0);
        // bob ann cyd dot: cyd joins with ann when ahead of her.
        Check.due("cyd", x.where(2, 0), 1);
        Check.due("cyd", x.where(2, 1), 2);
        Check.due("others", x.where(0, 2), -1);
        Check.due("nobody", x.where(4, 0), -1);
        Check.due("nobody", x.where(-1, 1), -1);
    }

    private static void nothingHappens() {
        LanternPeople x = Check.village(RING);
        x.bestRow(-1);
        x.mend(-1);
        x.best(3, 0);
        x.where(0, 0);
        x.game(0);
        x.longest(0);
        Check.due("glows", x.count(7), 20);
        Check.due("joins", x.count(3), 2);
        Check.due("things", x.count(9), 0);
        Check.due("week", x.count(2), 0);
    }
}
