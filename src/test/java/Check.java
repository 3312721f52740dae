import java.nio.charset.StandardCharsets;
import java.util.List;

/** What the tests share: comparing an answer with the one that is due, and feeding a text. */
final class Check {
    static final int BEYOND = -1000000001;
    static final int FULL = -1000000002;
    static final int KIND = -1000000003;
    static final int NONE = -1000000004;
    static final int STATE = -1000000005;
    static final int MISSING = -1000000006;
    static final int SIZE = -1000000007;

    private static int asked = 0;
    private static int wrong = 0;

    private Check() { }

    static void due(String what, long got, long want) {
        asked++;
        if (got != want) {
            wrong++;
            System.out.println(what + " answered " + got + ", due is " + want);
        }
    }

    static void holds(String what, boolean yes) {
        due(what, yes ? 1 : 0, 1);
    }

    /** Tells the first row alone in which two lists differ. */
    static void same(String what, List<String> got, List<String> want) {
        asked++;
        for (int i = 0; i < Math.max(got.size(), want.size()); i++) {
            String one = i < got.size() ? got.get(i) : "nothing";
            String other = i < want.size() ? want.get(i) : "nothing";
            if (!one.equals(other)) {
                wrong++;
                System.out.println(what + ": " + one + ", due is " + other);
                return;
            }
        }
    }

    static void feed(TowerWarns x, String text) {
        feed(x, text.getBytes(StandardCharsets.ISO_8859_1));
    }

    static void feed(TowerWarns x, byte[] bytes) {
        for (byte b : bytes) {
            x.feed(b, 1);
        }
    }

    /** Feeds a text to an empty tape and answers what sea() does. */
    static int sea(TowerWarns x, String text) {
        feed(x, text);
        return x.sea();
    }

    static void end(String name) {
        System.out.println(name + ": " + asked + " answers asked, " + wrong + " wrong");
        if (asked == 0 || wrong != 0) {
            System.exit(1);
        }
    }
}
