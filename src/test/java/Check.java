import java.io.IOException;
import java.nio.charset.StandardCharsets;
import java.nio.file.Files;
import java.nio.file.Path;

/** Helps of the tests: answers that are due, and texts fed to an object. */
final class Check {
    private static int wrong = 0;
    private static String document = "";
    private static String sentence = "";

    private Check() { }

    /** What follows tests these words, which must stand in the document just so. */
    static void of(String words) {
        if (document.isEmpty()) {
            try {
                document = Files.readString(Path.of("../shared/DOC.md")).replaceAll("\\s+", " ");
            } catch (IOException e) {
                document = " ";
            }
        }
        sentence = words;
        due("is in the document", document.contains(words), true);
    }

    static void due(String call, long got, long want) {
        if (got != want) {
            wrong++;
            String of = sentence.isEmpty() ? "" : "[" + sentence + "] ";
            System.out.println(of + shortened(call) + " answered " + got + ", due is " + want);
        }
    }

    private static String shortened(String call) {
        return call.length() <= 200 ? call : call.substring(0, 100) + " .. " + call.substring(call.length() - 100);
    }

    static void due(String call, boolean got, boolean want) {
        due(call, got ? 1 : 0, want ? 1 : 0);
    }

    static void end() {
        System.out.println(wrong == 0 ? "all answers are as due" : wrong + " answers are not as due");
        if (wrong != 0) {
            System.exit(1);
        }
    }

    static byte[] bytes(String text) {
        return text.getBytes(StandardCharsets.ISO_8859_1);
    }

    /** Feeds bytes, twenty at a time; what is too much at the end goes back. */
    static void feed(LanternPeople x, byte[] text) {
        int at = 0;
        while (at < text.length) {
            int[] five = new int[5];
            for (int i = 0; i < 20; i++) {
                int here = at + i < text.length ? text[at + i] & 255 : ' ';
                five[i / 4] = five[i / 4] << 8 | here;
            }
            x.feed(five[0], five[1], five[2], five[3], five[4]);
            at += 20;
        }
        x.back(at - text.length);
    }

    /** A new object that has read a text, which must have no fault. */
    static LanternPeople village(String text) {
        LanternPeople x = new LanternPeople();
        due("read of " + text, read(x, text), 0);
        return x;
    }

    static int read(LanternPeople x, String text) {
        feed(x, bytes(text));
        return x.read();
    }

    /** A text's fault and its place. */
    static void fault(String text, int number, int place) {
        LanternPeople x = new LanternPeople();
        due("read of " + text, read(x, text), number);
        due("place of " + text, x.place(), place);
    }

    static String times(String part, int n) {
        return part.repeat(n);
    }
}
