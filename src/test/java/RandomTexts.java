import java.util.Random;

/** Texts by a seed: most of them whole, some with something put in, left out or changed. */
final class RandomTexts {
    private static final String[] NAMES = {"a", "b", "anna", "otto", "moon", "ship", "longname", "x", "if", "slides"};
    private static final String[] VARS = {"glow", "warm", "bright", "week", "seat", "joins", "which", "others", "slides"};
    private static final String[] ODD = {";", "=", "(", ")", "<", "if", "then", "else", "+", "*", "slide", "person", "7", "20",
        "99999", "ninechars", "A", ".", "-", "/", "name", "shown", "seed", "\u00e9", "\u0000", "\t", "glow", "0006"};

    private final Random random;

    RandomTexts(Random random) {
        this.random = random;
    }

    private String pick(String[] from) {
        return from[random.nextInt(from.length)];
    }

    private String gap() {
        return random.nextInt(12) == 0 ? pick(new String[] {"  ", "\n", "\t", "\r\n"}) : " ";
    }

    String number(int most) {
        int n = random.nextInt(25) == 0 ? random.nextInt(12000) : random.nextInt(most + 1);
        return random.nextInt(20) == 0 ? "0" + n : "" + n;
    }

    String sum(int depth) {
        StringBuilder s = new StringBuilder(product(depth));
        while (random.nextInt(3) == 0) {
            s.append(random.nextBoolean() ? "+" : "-").append(product(depth));
        }
        return s.toString();
    }

    private String product(int depth) {
        StringBuilder s = new StringBuilder(unit(depth));
        while (random.nextInt(4) == 0) {
            s.append(random.nextBoolean() ? "*" : "/").append(gap()).append(unit(depth));
        }
        return s.toString();
    }

    private String unit(int depth) {
        int sort = random.nextInt(depth < 6 ? 7 : 6);
        if (sort == 6) {
            return "(" + sum(depth + 1) + ")";
        }
        return sort < 2 ? " " + number(random.nextInt(4) == 0 ? 9999 : 12) : " " + pick(VARS);
    }

    String law() {
        StringBuilder s = new StringBuilder();
        int ifs = random.nextInt(3) == 0 ? random.nextInt(5) : random.nextInt(2);
        if (random.nextInt(60) == 0) {
            ifs = 5;
        }
        for (int i = 0; i < ifs; i++) {
            s.append(" if").append(sum(0)).append("<").append(sum(0)).append(" then").append(sum(0)).append(" else");
        }
        return s.append(sum(0)).toString();
    }

    /** A whole text that has most likely no fault. */
    String good() {
        StringBuilder s = new StringBuilder();
        int slides = random.nextInt(6);
        int people = random.nextInt(7);
        int edges = 1 + random.nextInt(4);
        for (int i = 0; i < slides; i++) {
            s.append("slide s").append((char) ('a' + i)).append(gap()).append(random.nextInt(edges)).append(gap())
                .append(random.nextInt(edges)).append(gap()).append(1 + random.nextInt(20)).append(";");
        }
        for (int i = 0; i < people; i++) {
            s.append("person p").append((char) ('a' + i)).append(gap()).append(random.nextInt(10)).append(";");
        }
        int shown = slides * people == 0 ? 0 : random.nextInt(21);
        for (int i = 0; i < shown; i++) {
            s.append("shown p").append((char) ('a' + random.nextInt(people))).append(" s")
                .append((char) ('a' + random.nextInt(slides))).append(gap()).append(";");
        }
        for (String law : new String[] {"takes", "fades", "pays", "washes"}) {
            if (random.nextInt(3) > 0) {
                String easy = law.equals("fades") ? " which + 1" : law.equals("washes") ? " 20 + warm * joins" : " bright + seat";
                s.append(law).append("=").append(random.nextBoolean() ? easy : law()).append(";");
            }
        }
        if (random.nextBoolean()) {
            s.append("seed ").append(random.nextInt(10000)).append(";");
        }
        return s.toString();
    }

    /** Tells of any sort, in any order, with names and numbers of any sort. */
    String wild() {
        StringBuilder s = new StringBuilder();
        int tells = random.nextInt(random.nextInt(6) == 0 ? 60 : 14);
        for (int i = 0; i < tells; i++) {
            switch (random.nextInt(6)) {
                case 0 -> s.append("slide ").append(pick(NAMES)).append(gap()).append(number(5)).append(gap())
                    .append(number(5)).append(gap()).append(number(20));
                case 1 -> s.append("person ").append(pick(NAMES)).append(gap()).append(number(9));
                case 2, 3 -> s.append("shown ").append(pick(NAMES)).append(gap()).append(pick(NAMES));
                case 4 -> s.append(pick(new String[] {"takes", "fades", "pays", "washes"})).append("=").append(law());
                default -> s.append("seed ").append(number(9999));
            }
            s.append(gap()).append(";");
        }
        return s.toString();
    }

    /** A whole one with a few places changed. */
    String hurt(String text) {
        StringBuilder s = new StringBuilder(text);
        int times = 1 + random.nextInt(2);
        for (int i = 0; i < times; i++) {
            int at = random.nextInt(s.length() + 1);
            switch (random.nextInt(4)) {
                case 0 -> s.insert(at, gap() + pick(ODD) + gap());
                case 1 -> s.setLength(random.nextInt(4) == 0 ? at : s.length());
                case 2 -> s.delete(at, Math.min(s.length(), at + 1 + random.nextInt(5)));
                default -> s.insert(at, pick(ODD));
            }
        }
        return s.toString();
    }

    /** A whole one with a name or a number that is not as it should be. */
    String almost() {
        String text = good();
        String from = pick(new String[] {"sb", "sc", "pb", "pa", " 0", " 1", " 2", " 5"});
        String to = pick(new String[] {"sa", "pa", "pc", "zz", " 6", " 21", " 10", " 0", " 9"});
        int at = text.indexOf(from, random.nextInt(text.length() + 1));
        boolean sameSort = from.startsWith(" ") == to.startsWith(" ");
        return at >= 0 && sameSort ? text.substring(0, at) + to + text.substring(at + from.length()) : text;
    }

    /** A text at the limits of room. */
    String full() {
        StringBuilder s = new StringBuilder();
        switch (random.nextInt(4)) {
            case 0 -> {
                s.append("fades=glow");
                int n = 190 + random.nextInt(15);
                for (int i = 0; i < n; i++) {
                    s.append(random.nextBoolean() ? "+" : "*").append(random.nextInt(10));
                }
                s.append(random.nextInt(4) == 0 ? "" : ";").append(random.nextInt(3) == 0 ? "seed 5;" : "");
            }
            case 1 -> {
                int n = 4 + random.nextInt(6);
                s.append("pays=").append("(".repeat(n)).append("warm").append(")".repeat(n - random.nextInt(2))).append(";");
            }
            case 2 -> {
                int n = 130 + random.nextInt(6);
                s.append("seed 7;".repeat(n));
            }
            default -> {
                s.append("slide a 0 0 1;person b 1;").append("shown b a;".repeat(18 + random.nextInt(5)));
            }
        }
        return s.toString();
    }

    String any() {
        int sort = random.nextInt(24);
        String text = sort < 11 ? good() : sort < 15 ? wild() : sort < 18 ? hurt(good()) : sort < 19 ? hurt(wild())
            : sort < 23 ? almost() : full();
        return text.length() > 2000 ? text.substring(0, 2000) : text;
    }
}
