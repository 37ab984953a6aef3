import java.lang.reflect.Method;
import java.util.ArrayList;
import java.util.List;
import java.util.Random;

/** Runs of calls by seeds, answered by the class and by the plain model, for promises 1 to 43. */
public final class AgainstModelTest {
    /** The methods, and of what sort each argument is: p person, s slide, w what, n weeks, i seat or NONE, and so on. */
    private static final String[] CALLS = {"slide sw", "person pw", "glow ps", "tells psw", "join pp", "seat p", "show ps",
        "show ps", "show ps", "wash p", "go pp", "weeks n", "undo ", "bestRow i", "fullRows ", "rings ", "longest i", "way pp",
        "mend i", "game w", "best pw", "where pw", "worth n", "plainIn p", "turns p", "like p", "lonely ", "brightest w",
        "open ", "share p", "then pn", "paidIn n", "year pny", "tell mvb", "tell mvb", "forget ", "which kw", "look kv",
        "hold t", "restore t", "count c", "count c", "back t", "feed xxxxx", "place "};
    private static final int[] ODD = {-1, -2, 99, Integer.MAX_VALUE, Integer.MIN_VALUE, 64, -100, 32};

    private final Random random;
    private final RandomTexts texts;
    private LanternPeople x = new LanternPeople();
    private PlainModel model = new PlainModel();
    private final List<String> told = new ArrayList<>();
    private int wrong = 0;

    AgainstModelTest(long seed) {
        random = new Random(seed);
        texts = new RandomTexts(random);
    }

    public static void main(String[] args) throws Exception {
        int runs = args.length > 0 ? Integer.parseInt(args[0]) : 400;
        int first = args.length > 1 ? Integer.parseInt(args[1]) : 1;
        int wrong = 0;
        for (int run = first; run < first + runs && wrong < 3; run++) {
            wrong += new AgainstModelTest(run).run(run);
        }
        for (int seed = first; seed < first + 20 * runs && wrong < 3; seed++) {
            wrong += new AgainstModelTest(seed).readings();
        }
        System.out.println(wrong == 0 ? runs + " runs are answered alike" : wrong + " runs are not answered alike");
        System.exit(wrong == 0 ? 0 : 1);
    }

    private int run(int number) throws Exception {
        int calls = 0;
        while (calls < 512 && wrong == 0) {
            if (calls == 0 || random.nextInt(60) == 0) {
                calls += readText(texts.any());
            } else {
                callOne(CALLS[random.nextInt(CALLS.length)]);
                calls++;
            }
        }
        if (wrong > 0) {
            System.out.println("run " + number + ": " + String.join("\n  ", told));
        }
        return wrong;
    }

    /** Texts alone, many of them with faults. */
    private int readings() throws Exception {
        for (int i = 0; i < 8 && wrong == 0; i++) {
            readText(texts.any());
            compare("count(7)", x.count(7), model.count(7));
            compare("count(6)", x.count(6), model.count(6));
        }
        if (wrong > 0) {
            System.out.println(String.join("\n  ", told));
        }
        return wrong;
    }

    private int readText(String text) throws Exception {
        byte[] bytes = Check.bytes(text);
        x.back(x.count(8));
        model.back(model.count(8));
        Check.feed(x, bytes);
        for (int at = 0; at < bytes.length; at += 20) {
            int[] five = new int[5];
            for (int i = 0; i < 20; i++) {
                five[i / 4] = five[i / 4] << 8 | (at + i < bytes.length ? bytes[at + i] & 255 : 0);
            }
            model.feed(five[0], five[1], five[2], five[3], five[4]);
        }
        model.back((20 - bytes.length % 20) % 20);
        compare("count(8)", x.count(8), model.count(8));
        compare("read() of " + text, x.read(), model.read());
        compare("place()", x.place(), model.place());
        return bytes.length / 20 + 5;
    }

    private void callOne(String call) throws Exception {
        String name = call.substring(0, call.indexOf(' '));
        String sorts = call.substring(call.indexOf(' ') + 1);
        Class<?>[] types = new Class<?>[sorts.length()];
        Object[] values = new Object[sorts.length()];
        for (int i = 0; i < types.length; i++) {
            boolean flag = sorts.charAt(i) == 'b';
            types[i] = flag ? boolean.class : int.class;
            values[i] = flag ? (Object) random.nextBoolean() : (Object) argument(sorts.charAt(i));
        }
        Method own = LanternPeople.class.getMethod(name, types);
        Method due = PlainModel.class.getDeclaredMethod(name, types);
        compare(name + java.util.Arrays.toString(values), own.invoke(x, values), due.invoke(model, values));
    }

    private int argument(char sort) {
        if (sort != 'x' && random.nextInt(25) == 0) {
            return ODD[random.nextInt(ODD.length)];
        }
        switch (sort) {
            case 'p': return random.nextInt(Math.max(1, model.count(1)) + (random.nextInt(8) == 0 ? 2 : 0));
            case 's': return random.nextInt(Math.max(1, model.count(0)) + (random.nextInt(8) == 0 ? 2 : 0));
            case 'w': return random.nextInt(random.nextBoolean() ? 2 : 8);
            case 'n': return random.nextInt(random.nextInt(5) == 0 ? 62 : 5);
            case 'i': return random.nextInt(model.count(1) + 2) - 1;
            case 'y': return random.nextInt(random.nextInt(3) == 0 ? 22 : 4);
            case 'm': return random.nextInt(random.nextInt(8) == 0 ? 5 : 4);
            case 'v': return random.nextInt(random.nextInt(3) == 0 ? 22 : 5);
            case 'k': return random.nextInt(model.count(10) + (random.nextInt(8) == 0 ? 2 : 1));
            case 't': return random.nextInt(4);
            case 'c': return random.nextInt(19);
            default: return random.nextInt();
        }
    }

    private void compare(String call, Object got, Object want) {
        told.add(call + " : " + got);
        if (!got.equals(want)) {
            wrong++;
            System.out.println(call + " answered " + got + ", due is " + want);
        }
    }
}
