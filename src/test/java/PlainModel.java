import java.util.ArrayList;
import java.util.HashMap;
import java.util.List;
import java.util.Map;
import java.util.function.Predicate;
import java.util.regex.Matcher;
import java.util.regex.Pattern;

/**
 * The document once more, in its plainest form and another way than in the class: all rows are listed, all
 * slides tried at all seats, laws are trees, every state is a copy. Runs of calls are answered by both and compared.
 */
final class PlainModel {
    static final int NONE = -1;

    record Token(String kind, String text, int place) { }

    record Slide(String name, int left, int right, int bright) { }

    record Person(String name, int warm) { }

    record Clue(int mark, int v, boolean so) { }

    interface Expr {
        int value(Map<String, Integer> vars);
    }

    record Choice(Expr low, Expr high, Expr value) { }

    record Law(List<Choice> choices, Expr last) { }

    static final class Fault extends Exception {
        private static final long serialVersionUID = 1L;
        final int number;
        final int place;

        Fault(int number, int place) {
            this.number = number;
            this.place = place;
        }
    }

    /** A text once read. */
    static final class Text {
        final List<Slide> slides = new ArrayList<>();
        final List<Person> people = new ArrayList<>();
        final List<int[]> shown = new ArrayList<>();
        final Map<String, Law> laws = new HashMap<>();
        int seed = 0;
    }

    /** All that goes on. */
    static final class State {
        int week = 0;
        int paid = 0;
        List<Integer> row = new ArrayList<>();
        int[][] glow = new int[0][0];

        State copy() {
            State s = new State();
            s.week = week;
            s.paid = paid;
            s.row = new ArrayList<>(row);
            s.glow = new int[glow.length][];
            for (int i = 0; i < glow.length; i++) {
                s.glow[i] = glow[i].clone();
            }
            return s;
        }
    }

    // ---------------------------------------------------------------- reading

    private static final List<String> WORDS = List.of("slide", "person", "shown", "takes", "fades", "pays", "washes",
        "seed", "if", "then", "else", "glow", "warm", "bright", "week", "seat", "joins", "which", "others", "slides");
    private static final List<String> VARS = WORDS.subList(11, 20);
    private static final Pattern TOKEN = Pattern.compile("[a-z]+|[0-9]+|[;=+\\-*/<()]");

    static List<Token> tokens(String text) {
        List<Token> all = new ArrayList<>();
        int at = 0;
        Matcher m = TOKEN.matcher(text);
        while (at < text.length()) {
            char c = text.charAt(at);
            if (c == 9 || c == 10 || c == 13 || c == 32) {
                at++;
                continue;
            }
            m.region(at, text.length());
            if (!m.lookingAt()) {
                all.add(new Token("none", "", at));
                break;
            }
            String t = m.group();
            String kind = t;
            if (Character.isDigit(c)) {
                kind = t.length() > 4 ? "none" : "INT";
            } else if (Character.isLetter(c)) {
                kind = t.length() > 8 ? "none" : WORDS.contains(t) ? t : "NAME";
            }
            all.add(new Token(kind, t, at));
            at += t.length();
        }
        all.add(new Token("end", "", text.length()));
        return all;
    }

    private static final class Parser {
        final List<Token> tokens;
        final Text text = new Text();
        final List<Fault> late = new ArrayList<>();
        final List<String> told = new ArrayList<>();
        int at = 0;
        int slides = 0;
        int people = 0;
        int shown = 0;

        Parser(String bytes) {
            tokens = tokens(bytes);
        }

        Token peek() {
            return tokens.get(at);
        }

        Token need(Predicate<String> fits) throws Fault {
            Token t = peek();
            if (!fits.test(t.kind())) {
                throw new Fault(1, t.place());
            }
            if (at == 400) {
                throw new Fault(2, t.place());
            }
            at++;
            return t;
        }

        Token need(String kind) throws Fault {
            return need(kind::equals);
        }

        void text() throws Fault {
            while (!peek().kind().equals("end")) {
                tell();
                need(";");
            }
        }

        void tell() throws Fault {
            Token first = need(k -> WORDS.contains(k) && WORDS.indexOf(k) < 8);
            switch (first.kind()) {
                case "slide" -> {
                    if (++slides > 5) {
                        throw new Fault(2, first.place());
                    }
                    String name = newName();
                    text.slides.add(new Slide(name, number(0, 5), number(0, 5), number(1, 20)));
                }
                case "person" -> {
                    if (++people > 6) {
                        throw new Fault(2, first.place());
                    }
                    String name = newName();
                    text.people.add(new Person(name, number(0, 9)));
                }
                case "shown" -> {
                    if (++shown > 20) {
                        throw new Fault(2, first.place());
                    }
                    List<String> who = text.people.stream().map(Person::name).toList();
                    List<String> what = text.slides.stream().map(Slide::name).toList();
                    text.shown.add(new int[] {old(who), old(what)});
                }
                case "seed" -> text.seed = number(0, 9999);
                default -> text.laws.put(first.kind(), law());
            }
        }

        String newName() throws Fault {
            Token t = need("NAME");
            if (told.contains(t.text())) {
                late.add(new Fault(3, t.place()));
            }
            told.add(t.text());
            return t.text();
        }

        int old(List<String> names) throws Fault {
            Token t = need("NAME");
            if (!names.contains(t.text())) {
                late.add(new Fault(4, t.place()));
            }
            return names.indexOf(t.text());
        }

        int number(int low, int high) throws Fault {
            Token t = need("INT");
            int n = Integer.parseInt(t.text());
            if (n < low || n > high) {
                late.add(new Fault(5, t.place()));
            }
            return n;
        }

        Law law() throws Fault {
            need("=");
            List<Choice> choices = new ArrayList<>();
            while (peek().kind().equals("if")) {
                if (choices.size() == 4) {
                    throw new Fault(2, peek().place());
                }
                need("if");
                Expr low = sum(0);
                need("<");
                Expr high = sum(0);
                need("then");
                Expr value = sum(0);
                need("else");
                choices.add(new Choice(low, high, value));
            }
            return new Law(choices, sum(0));
        }

        Expr sum(int depth) throws Fault {
            Expr left = product(depth);
            while (peek().kind().equals("+") || peek().kind().equals("-")) {
                boolean plus = need(k -> true).kind().equals("+");
                Expr a = left;
                Expr b = product(depth);
                left = plus ? v -> a.value(v) + b.value(v) : v -> a.value(v) - b.value(v);
            }
            return left;
        }

        Expr product(int depth) throws Fault {
            Expr left = unit(depth);
            while (peek().kind().equals("*") || peek().kind().equals("/")) {
                boolean times = need(k -> true).kind().equals("*");
                Expr a = left;
                Expr b = unit(depth);
                left = times ? v -> a.value(v) * b.value(v) : v -> a.value(v) / b.value(v);
            }
            return left;
        }

        Expr unit(int depth) throws Fault {
            if (peek().kind().equals("(")) {
                if (depth == 6) {
                    throw new Fault(2, peek().place());
                }
                need("(");
                Expr e = sum(depth + 1);
                need(")");
                return e;
            }
            Token t = need(k -> k.equals("INT") || VARS.contains(k));
            if (t.kind().equals("INT")) {
                int n = Integer.parseInt(t.text());
                return v -> n;
            }
            return v -> v.get(t.kind());
        }
    }

    // ---------------------------------------------------------------- the object

    private final StringBuilder tape = new StringBuilder();
    private Text text = new Text();
    private State now = new State();
    private int place = NONE;
    private final List<State> past = new ArrayList<>();
    private final List<Clue> clues = new ArrayList<>();
    private State[] slots = new State[3];

    int feed(int a, int b, int c, int d, int e) {
        if (tape.length() > 1980) {
            return NONE;
        }
        for (int four : new int[] {a, b, c, d, e}) {
            for (int i = 3; i >= 0; i--) {
                tape.append((char) (four >> 8 * i & 255));
            }
        }
        return tape.length();
    }

    int back(int n) {
        if (n < 0 || n > tape.length()) {
            return NONE;
        }
        tape.setLength(tape.length() - n);
        return tape.length();
    }

    int read() {
        Parser p = new Parser(tape.toString());
        tape.setLength(0);
        try {
            p.text();
            if (!p.late.isEmpty()) {
                throw p.late.get(0);
            }
        } catch (Fault f) {
            place = f.place;
            return f.number;
        }
        place = NONE;
        text = p.text;
        now = new State();
        now.glow = new int[people()][slides()];
        for (int i = 0; i < people(); i++) {
            now.row.add(i);
        }
        for (int[] s : text.shown) {
            cast(now, s[0], s[1]);
        }
        past.clear();
        clues.clear();
        slots = new State[3];
        return 0;
    }

    int place() {
        return place;
    }

    private int people() {
        return text.people.size();
    }

    private int slides() {
        return text.slides.size();
    }

    private boolean someone(int p) {
        return p >= 0 && p < people();
    }

    private boolean some(int s) {
        return s >= 0 && s < slides();
    }

    // ---------------------------------------------------------------- part II

    private int picture(State st, int p) {
        int best = -2;
        for (int s = slides() - 1; s >= 0; s--) {
            if (st.glow[p][s] > 0 && (best < 0 || st.glow[p][s] >= st.glow[p][best])) {
                best = s;
            }
        }
        return best;
    }

    private boolean joined(State st, int p, int q) {
        return picture(st, p) >= 0 && picture(st, q) >= 0
            && text.slides.get(picture(st, p)).right() == text.slides.get(picture(st, q)).left();
    }

    private int joinsOf(State st, int p) {
        int at = st.row.indexOf(p);
        int n = 0;
        if (at > 0 && joined(st, st.row.get(at - 1), p)) {
            n++;
        }
        if (at + 1 < people() && joined(st, p, st.row.get(at + 1))) {
            n++;
        }
        return n;
    }

    private int joinsIn(State st, List<Integer> row) {
        int n = 0;
        for (int i = 1; i < row.size(); i++) {
            if (joined(st, row.get(i - 1), row.get(i))) {
                n++;
            }
        }
        return n;
    }

    private int all(State st, int p) {
        int n = 0;
        for (int g : st.glow[p]) {
            n += g;
        }
        return n;
    }

    private int law(State st, String name, int p, int s) {
        Law law = text.laws.get(name);
        Map<String, Integer> v = new HashMap<>();
        int glow = s < 0 ? 0 : st.glow[p][s];
        v.put("glow", glow);
        v.put("warm", text.people.get(p).warm());
        v.put("bright", s < 0 ? 0 : text.slides.get(s).bright());
        v.put("week", st.week);
        v.put("seat", st.row.indexOf(p));
        v.put("joins", joinsOf(st, p));
        v.put("which", Math.max(s, 0));
        v.put("others", all(st, p) - glow);
        v.put("slides", slides());
        int most = name.equals("washes") ? 100 : 99;
        if (law == null) {
            int plain = name.equals("takes") ? v.get("bright") : name.equals("fades") ? 1 : name.equals("pays") ? glow : 0;
            return Math.min(plain, most);
        }
        try {
            for (Choice c : law.choices()) {
                if (c.low().value(v) < c.high().value(v)) {
                    return Math.max(0, Math.min(most, c.value().value(v)));
                }
            }
            return Math.max(0, Math.min(most, law.last().value(v)));
        } catch (ArithmeticException e) {
            return 0;
        }
    }

    private int pays(State st, int p) {
        return picture(st, p) < 0 ? 0 : law(st, "pays", p, picture(st, p));
    }

    private int paysOfAll(State st) {
        int n = 0;
        for (int p = 0; p < people(); p++) {
            n += pays(st, p);
        }
        return n;
    }

    static int lot(int n, int seed, int which) {
        int h = seed;
        for (int it : new int[] {205, which}) {
            h = (h ^ it) * 1103515245 + 12345;
            h = h ^ h >>> 15;
        }
        return (h >>> 1) % n;
    }

    private boolean washesNow(State st, int p, int seed) {
        return lot(100, seed, 8 * st.week + p) < law(st, "washes", p, picture(st, p));
    }

    private void cast(State st, int p, int s) {
        st.glow[p][s] = Math.min(99, st.glow[p][s] + law(st, "takes", p, s));
    }

    private void rinse(State st, int p) {
        for (int s = 0; s < slides(); s++) {
            st.glow[p][s] = st.glow[p][s] / 2;
        }
    }

    /** n weeks later, in a copy. */
    private State later(State from, int n, int seed, boolean washing) {
        State st = from.copy();
        for (int i = 0; i < n; i++) {
            State began = st.copy();
            st.paid += paysOfAll(began);
            for (int p = 0; p < people(); p++) {
                for (int s = 0; s < slides(); s++) {
                    st.glow[p][s] = Math.max(0, st.glow[p][s] - law(began, "fades", p, s));
                }
                if (washing && washesNow(began, p, seed)) {
                    rinse(st, p);
                }
            }
            st.week++;
        }
        return st;
    }

    int slide(int slide, int what) {
        if (!some(slide) || what < 0 || what > 3) {
            return NONE;
        }
        Slide s = text.slides.get(slide);
        return what == 0 ? s.left() : what == 1 ? s.right() : what == 2 ? s.bright() : showing(slide);
    }

    private int showing(int slide) {
        int bits = 0;
        for (int p = 0; p < people(); p++) {
            bits += picture(now, p) == slide ? 1 << p : 0;
        }
        return bits;
    }

    int person(int p, int what) {
        if (!someone(p)) {
            return NONE;
        }
        return switch (what) {
            case 0 -> text.people.get(p).warm();
            case 1 -> picture(now, p);
            case 2 -> now.row.indexOf(p);
            case 3 -> joinsOf(now, p);
            case 4 -> pays(now, p);
            case 5 -> law(now, "washes", p, picture(now, p));
            case 6 -> all(now, p);
            default -> NONE;
        };
    }

    int glow(int p, int s) {
        return someone(p) && some(s) ? now.glow[p][s] : NONE;
    }

    int tells(int p, int s, int what) {
        if (!someone(p) || !some(s) || what < 0 || what > 1) {
            return NONE;
        }
        return law(now, what == 0 ? "takes" : "fades", p, s);
    }

    int join(int p, int q) {
        return !someone(p) || !someone(q) || p == q ? NONE : joined(now, p, q) ? 1 : 0;
    }

    int seat(int i) {
        return someone(i) ? now.row.get(i) : NONE;
    }

    private void remember() {
        past.add(now.copy());
        if (past.size() > 40) {
            past.remove(0);
        }
    }

    int show(int p, int s) {
        if (!someone(p) || !some(s)) {
            return NONE;
        }
        remember();
        cast(now, p, s);
        return picture(now, p);
    }

    int wash(int p) {
        if (!someone(p) || picture(now, p) < 0) {
            return NONE;
        }
        remember();
        rinse(now, p);
        return all(now, p);
    }

    private static void send(State st, int p, int seat) {
        st.row.remove((Integer) p);
        st.row.add(seat, p);
    }

    boolean go(int p, int seat) {
        if (!someone(p) || !someone(seat) || now.row.get(seat) == p) {
            return false;
        }
        remember();
        send(now, p, seat);
        return true;
    }

    int weeks(int n) {
        if (n < 0 || n > 60) {
            return NONE;
        }
        if (n > 0) {
            remember();
            now = later(now, n, text.seed, true);
        }
        return now.week;
    }

    boolean undo() {
        if (past.isEmpty()) {
            return false;
        }
        now = past.remove(past.size() - 1);
        return true;
    }

    // ---------------------------------------------------------------- part III

    /** All orders of all people, the lowest first. */
    private static List<List<Integer>> orders(List<Integer> of) {
        List<List<Integer>> all = new ArrayList<>();
        if (of.isEmpty()) {
            all.add(new ArrayList<>());
        }
        for (Integer first : of) {
            List<Integer> rest = new ArrayList<>(of);
            rest.remove(first);
            for (List<Integer> tail : orders(rest)) {
                List<Integer> order = new ArrayList<>();
                order.add(first);
                order.addAll(tail);
                all.add(order);
            }
        }
        return all;
    }

    private List<List<Integer>> orders() {
        List<Integer> everyone = new ArrayList<>();
        for (int p = 0; p < people(); p++) {
            everyone.add(p);
        }
        return orders(everyone);
    }

    int bestRow(int i) {
        if (i != NONE && !someone(i)) {
            return NONE;
        }
        int most = -1;
        List<Integer> best = null;
        for (List<Integer> order : orders()) {
            int n = joinsIn(now, order);
            if (n > most) {
                most = n;
                best = order;
            }
        }
        return i == NONE ? most : best.get(i);
    }

    int fullRows() {
        int n = 0;
        for (List<Integer> order : orders()) {
            if (joinsIn(now, order) == Math.max(0, people() - 1)) {
                n++;
            }
        }
        return n;
    }

    int rings() {
        int n = 0;
        for (List<Integer> order : orders()) {
            if (people() >= 2 && joinsIn(now, order) == people() - 1
                && joined(now, order.get(people() - 1), order.get(0))) {
                n++;
            }
        }
        return n;
    }

    int longest(int i) {
        List<Integer> best = new ArrayList<>();
        for (List<Integer> order : orders()) {
            int n = Math.min(1, people());
            while (n < people() && n > 0 && joined(now, order.get(n - 1), order.get(n))) {
                n++;
            }
            if (n > best.size()) {
                best = order.subList(0, n);
            }
        }
        return i == NONE ? best.size() : i >= 0 && i < best.size() ? best.get(i) : NONE;
    }

    int way(int p, int q) {
        if (!someone(p) || !someone(q)) {
            return NONE;
        }
        int far = 1000;
        int n = people();
        int[][] d = new int[n][n];
        for (int a = 0; a < n; a++) {
            for (int b = 0; b < n; b++) {
                d[a][b] = a == b ? 0 : joined(now, a, b) ? 1 : far;
            }
        }
        for (int k = 0; k < n; k++) {
            for (int a = 0; a < n; a++) {
                for (int b = 0; b < n; b++) {
                    d[a][b] = Math.min(d[a][b], d[a][k] + d[k][b]);
                }
            }
        }
        return d[p][q] >= far ? -2 : d[p][q];
    }

    int mend(int i) {
        if (i != NONE && !someone(i)) {
            return NONE;
        }
        if (people() == 0) {
            return 0;
        }
        int tries = 1;
        for (int p = 0; p < people(); p++) {
            tries *= slides();
        }
        int fewest = 99;
        int answer = -2;
        for (int t = 0; t < tries; t++) {
            int[] put = new int[people()];
            int rest = t;
            for (int k = people() - 1; k >= 0; k--) {
                put[k] = rest % slides();
                rest /= slides();
            }
            int changed = 0;
            boolean joins = true;
            for (int k = 0; k < people(); k++) {
                changed += picture(now, now.row.get(k)) == put[k] ? 0 : 1;
                joins &= k == 0 || text.slides.get(put[k - 1]).right() == text.slides.get(put[k]).left();
            }
            if (joins && changed < fewest) {
                fewest = changed;
                answer = i == NONE ? changed : put[i];
            }
        }
        return answer;
    }

    private boolean moverWins(List<Integer> row) {
        for (int p = 0; p < people(); p++) {
            if (mayPut(row, p)) {
                List<Integer> longer = new ArrayList<>(row);
                longer.add(p);
                if (!moverWins(longer)) {
                    return true;
                }
            }
        }
        return false;
    }

    private boolean mayPut(List<Integer> row, int p) {
        return picture(now, p) >= 0 && !row.contains(p)
            && (row.isEmpty() || joined(now, row.get(row.size() - 1), p));
    }

    int game(int what) {
        if (what != 0 && what != 1) {
            return NONE;
        }
        for (int p = 0; p < people(); p++) {
            if (mayPut(List.of(), p) && !moverWins(List.of(p))) {
                return what == 0 ? 1 : p;
            }
        }
        return what == 0 ? 2 : -2;
    }

    int best(int p, int what) {
        if (!someone(p) || what < 0 || what > 1) {
            return NONE;
        }
        int[] answer = {-2, -2};
        for (int s = 0; s < slides(); s++) {
            State st = now.copy();
            cast(st, p, s);
            int n = joinsIn(st, st.row);
            if (n > answer[1]) {
                answer = new int[] {s, n};
            }
        }
        return answer[what];
    }

    int where(int p, int what) {
        if (!someone(p) || what < 0 || what > 1) {
            return NONE;
        }
        int[] answer = {-2, -2};
        for (int i = 0; i < people(); i++) {
            State st = now.copy();
            send(st, p, i);
            int n = joinsIn(st, st.row);
            if (n > answer[1]) {
                answer = new int[] {i, n};
            }
        }
        return answer[what];
    }

    int worth(int n) {
        return n < 0 || n > 60 ? NONE : later(now, n, text.seed, false).paid - now.paid;
    }

    int plainIn(int p) {
        if (!someone(p)) {
            return NONE;
        }
        State st = now;
        for (int n = 0; n <= 100; n++) {
            if (picture(st, p) < 0) {
                return n;
            }
            st = later(st, 1, text.seed, false);
        }
        return -2;
    }

    int turns(int p) {
        if (!someone(p)) {
            return NONE;
        }
        if (picture(now, p) < 0) {
            return -2;
        }
        State st = now;
        for (int n = 1; n <= 100; n++) {
            st = later(st, 1, text.seed, false);
            if (picture(st, p) != picture(now, p)) {
                return n;
            }
        }
        return -2;
    }

    int like(int p) {
        if (!someone(p)) {
            return NONE;
        }
        return picture(now, p) < 0 ? 0 : showing(picture(now, p)) - (1 << p);
    }

    int lonely() {
        int bits = 0;
        for (int p = 0; p < people(); p++) {
            boolean alone = true;
            for (int q = 0; q < people(); q++) {
                alone &= p == q || !joined(now, p, q) && !joined(now, q, p);
            }
            bits += alone ? 1 << p : 0;
        }
        return bits;
    }

    int brightest(int what) {
        if (what < 0 || what > 1) {
            return NONE;
        }
        int[] answer = {-2, -2};
        for (int p = 0; p < people(); p++) {
            int s = picture(now, p);
            if (s >= 0 && now.glow[p][s] > answer[1]) {
                answer = new int[] {p, now.glow[p][s]};
            }
        }
        return answer[what];
    }

    int open() {
        int bits = 0;
        for (int i = 0; i < people() - 1; i++) {
            bits += joined(now, now.row.get(i), now.row.get(i + 1)) ? 0 : 1 << i;
        }
        return bits;
    }

    int share(int p) {
        if (!someone(p)) {
            return NONE;
        }
        int s = picture(now, p);
        return s < 0 ? 0 : 1000 * now.glow[p][s] / all(now, p);
    }

    int then(int p, int n) {
        return !someone(p) || n < 0 || n > 60 ? NONE : picture(later(now, n, text.seed, true), p);
    }

    int paidIn(int n) {
        return n < 0 || n > 60 ? NONE : later(now, n, text.seed, true).paid;
    }

    int year(int p, int n, int s) {
        if (!someone(p) || n < 0 || n > 60 || s < 1 || s > 20) {
            return NONE;
        }
        int plain = 0;
        for (int i = 0; i < s; i++) {
            plain += picture(later(now, n, text.seed + i, true), p) == -2 ? 1 : 0;
        }
        return plain;
    }

    // ---------------------------------------------------------------- part IV

    int tell(int mark, int v, boolean so) {
        if (clues.size() == 20 || mark < 0 || mark > 3 || v < 0 || v > 20) {
            return NONE;
        }
        clues.add(new Clue(mark, v, so));
        return clues.size() - 1;
    }

    int forget() {
        int n = clues.size();
        clues.clear();
        return n;
    }

    private boolean reaches(int s, int mark, int v) {
        int value = mark == 3 ? Integer.bitCount(showing(s)) : slide(s, mark);
        return value >= v;
    }

    private List<Integer> fitting(int k) {
        List<Integer> left = new ArrayList<>();
        for (int s = 0; s < slides(); s++) {
            boolean fits = true;
            for (Clue c : clues.subList(0, k)) {
                fits &= reaches(s, c.mark(), c.v()) == c.so();
            }
            if (fits) {
                left.add(s);
            }
        }
        return left;
    }

    int which(int k, int what) {
        if (k < 0 || k > clues.size() || what < 0 || what > 1) {
            return NONE;
        }
        int bits = 0;
        for (int s : fitting(k)) {
            bits |= 1 << s;
        }
        return what == 1 ? bits : fitting(k).size();
    }

    int look(int k, int v) {
        if (k < 0 || k > clues.size() || v < 0 || v > 20) {
            return NONE;
        }
        List<Integer> left = fitting(k);
        int best = -2;
        int least = 99;
        for (int mark = 0; mark < 4 && !left.isEmpty(); mark++) {
            int m = mark;
            int so = (int) left.stream().filter(s -> reaches(s, m, v)).count();
            int worst = Math.max(so, left.size() - so);
            if (worst < least) {
                least = worst;
                best = mark;
            }
        }
        return best;
    }

    boolean hold(int slot) {
        if (slot < 0 || slot > 2) {
            return false;
        }
        slots[slot] = now.copy();
        return true;
    }

    boolean restore(int slot) {
        if (slot < 0 || slot > 2 || slots[slot] == null) {
            return false;
        }
        now = slots[slot].copy();
        past.clear();
        return true;
    }

    int count(int what) {
        int n = 0;
        switch (what) {
            case 0:
                return slides();
            case 1:
                return people();
            case 2:
                return now.week;
            case 3:
                return joinsIn(now, now.row);
            case 4:
                return showing(-2);
            case 5:
                return paysOfAll(now);
            case 6:
                return now.paid;
            case 7:
                for (int p = 0; p < people(); p++) {
                    n += all(now, p);
                }
                return n;
            case 8:
                return tape.length();
            case 9:
                return past.size();
            case 10:
                return clues.size();
            case 11:
                for (State s : slots) {
                    n += s == null ? 0 : 1;
                }
                return n;
            case 12:
                for (int s = 0; s < slides(); s++) {
                    n += showing(s) > 0 ? 1 << s : 0;
                }
                return n;
            case 13:
                for (int p = 0; p < people(); p++) {
                    n += washesNow(now, p, text.seed) ? 1 << p : 0;
                }
                return n;
            case 14:
                for (int p = 0; p < people(); p++) {
                    for (int q = 0; q < people(); q++) {
                        n += p != q && joined(now, p, q) ? 1 : 0;
                    }
                }
                return n;
            case 15:
                for (Person p : text.people) {
                    n += p.warm();
                }
                return n;
            case 16:
                for (int p = 0; p < people(); p++) {
                    n += joinsOf(now, p) == 2 ? 1 << p : 0;
                }
                return n;
            case 17:
                return Integer.bitCount(lonely());
            default:
                return NONE;
        }
    }
}
