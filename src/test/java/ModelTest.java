import java.lang.reflect.Method;
import java.util.Arrays;
import java.util.Comparator;
import java.util.Map;
import java.util.Random;
import java.util.TreeMap;

/** Runs of calls drawn by fixed seeds, answered by the class and by the model alike: all promises. */
public final class ModelTest {
    private static final int RUNS = 300;
    private static final int CALLS = 512;
    private static final String[] WORDS = {"ship", "steamer", "boat", "drifter", "mail", "gig", "tower", "burns", "dark", "reach"};
    private static final String[] ODD = {"at", ";", " ", "x", "shi", "20", "10", "12", "999", "1000", "007", "A", "\t", "\u00ff", "-", ""};

    /** For each call, how often it was answered, and how often it told a finding. */
    private static final Map<String, int[]> seen = new TreeMap<>();

    public static void main(String[] args) throws Exception {
        Method[] calls = Arrays.stream(TowerWarns.class.getDeclaredMethods())
            .filter(m -> java.lang.reflect.Modifier.isPublic(m.getModifiers())).toArray(Method[]::new);
        Arrays.sort(calls, Comparator.comparing(Method::getName));
        for (int run = 0; run < RUNS; run++) {
            oneRun(run, calls);
        }
        for (Method m : calls) {
            Check.holds(m.getName() + " was answered", seen.get(m.getName())[0] > 0);
            boolean everFinds = !Arrays.asList("image", "tear", "wipe", "sea").contains(m.getName());
            Check.holds(m.getName() + " told findings as it can", seen.get(m.getName())[1] > 0 == everFinds);
        }
        Check.end("ModelTest");
    }

    private static void oneRun(int run, Method[] calls) throws Exception {
        Random random = new Random(run);
        TowerWarns x = new TowerWarns();
        Model model = new Model();
        for (int i = 0; i < CALLS; i++) {
            if (random.nextInt(12) == 0) {
                i += tellSea(run, random, x, model);
            }
            Method m = calls[random.nextInt(calls.length)];
            if (m.getName().equals("hours") && random.nextInt(3) > 0) {
                ask(run, x, model, m, new long[] {1 + random.nextInt(4)});
                continue;
            }
            long[] a = new long[m.getParameterCount()];
            for (int k = 0; k < a.length; k++) {
                a[k] = argument(random, m.getName(), k);
                if (m.getParameterTypes()[k] == int.class) {
                    a[k] = (int) a[k];
                }
            }
            ask(run, x, model, m, a);
        }
        state(run, x, model);
    }

    private static void ask(int run, TowerWarns x, Model model, Method m, long[] a) throws Exception {
        Object[] given = new Object[a.length];
        for (int k = 0; k < a.length; k++) {
            if (m.getParameterTypes()[k] == int.class) given[k] = (int) a[k];
            else given[k] = a[k];
        }
        long got = ((Number) m.invoke(x, given)).longValue();
        int told = Arrays.stream(model.told).sum();
        long want = model.answer(m.getName(), a);
        boolean finding = Arrays.stream(model.told).sum() > told;
        seen.computeIfAbsent(m.getName(), k -> new int[2])[finding ? 1 : 0]++;
        Check.due("run " + run + ": " + m.getName() + Arrays.toString(a), got, want);
    }

    /** What a parameter may be, its edges, and now and then something far off. */
    private static long argument(Random random, String name, int k) {
        if (random.nextInt(25) == 0) {
            long[] far = {Integer.MIN_VALUE, Integer.MAX_VALUE, -1, -1000000001, 4096, 10000, Long.MIN_VALUE, Long.MAX_VALUE, 1L << 32};
            return far[random.nextInt(far.length)];
        }
        int most = most(name, k);
        int drawn = random.nextInt(12);
        return drawn == 0 ? most : drawn == 1 && random.nextInt(3) == 0 ? most + 1 : random.nextInt(most + 1);
    }

    private static int most(String name, int k) {
        switch (name) {
            case "tower": return k == 0 ? 19 : 9;
            case "lamp": return 4095;
            case "reach": return 9;
            case "now": return 7;
            case "ship": return k == 0 ? 5 : 9;
            case "of": return k == 0 ? 5 : 11;
            case "set": return k == 0 ? 5 : k == 1 ? 4 : 19;
            case "turn": case "as": return 5;
            case "on": return k == 0 ? 5 : k == 1 ? 100 : 3;
            case "then": return k == 0 ? 100 : 1;
            case "shine": case "hour": return 60;
            case "site": return 40;
            case "hours": case "nearest": return 100;
            case "feed": return k == 0 ? 100000 : 4;
            case "sheet": return k == 0 ? 3 : k == 1 ? 16 : 40;
            case "write": return k == 0 ? 3 : k == 1 ? 12 : 11;
            case "copy": return k == 0 || k == 2 ? 3 : 6;
            case "lays": return 3;
            case "book": case "read": return k == 0 ? 3 : 5;
            case "count": return 3;
            case "status": return 6;
            default: return 5;
        }
    }

    /** A text, mostly a right one, and sheets of the bits that there are: chance alone seldom makes them. */
    private static int tellSea(int run, Random random, TowerWarns x, Model model) throws Exception {
        int[] bits = {8, 16, 64};
        Method sheet = TowerWarns.class.getMethod("sheet", int.class, int.class, int.class);
        ask(run, x, model, sheet, new long[] {random.nextInt(4), bits[random.nextInt(3)], random.nextInt(12)});
        Method book = TowerWarns.class.getMethod("book", int.class, int.class);
        Method read = TowerWarns.class.getMethod("read", int.class, int.class);
        int s = random.nextInt(4);
        int ship = random.nextInt(6);
        ask(run, x, model, book, new long[] {s, ship});
        ask(run, x, model, read, new long[] {s, ship});
        if (random.nextBoolean()) {
            ask(run, x, model, TowerWarns.class.getMethod("image"), new long[0]);
        } else {
            ask(run, x, model, TowerWarns.class.getMethod("undo"), new long[0]);
        }
        ask(run, x, model, TowerWarns.class.getMethod("wipe"), new long[0]);
        String text = text(random);
        Method feed = TowerWarns.class.getMethod("feed", int.class, int.class);
        int asked = 6;
        for (int i = 0; i < text.length(); i += 4) {
            int n = Math.min(4, text.length() - i);
            int bytes = 0x7a7a7a7a;
            for (int k = 0; k < n; k++) {
                bytes = bytes << 8 | text.charAt(i + k);
            }
            ask(run, x, model, feed, new long[] {bytes, n});
            asked++;
        }
        ask(run, x, model, TowerWarns.class.getMethod("sea"), new long[0]);
        return asked;
    }

    private static String text(Random random) {
        StringBuilder text = new StringBuilder();
        int items = 1 + random.nextInt(5);
        for (int i = 0; i < items; i++) {
            String word = WORDS[random.nextInt(WORDS.length)];
            text.append(i > 0 ? ";" : "").append(random.nextInt(4) == 0 ? " " : "").append(word).append(random.nextBoolean() ? " " : "");
            text.append(random.nextInt(random.nextInt(9) == 0 ? 13 : 10));
            if (word.equals("tower")) {
                text.append(' ').append(random.nextInt(10));
            } else if (random.nextInt(3) == 0 && Arrays.asList(WORDS).indexOf(word) < 6) {
                text.append(" at ").append(random.nextInt(20));
            }
        }
        if (random.nextInt(4) == 0) {
            int at = random.nextInt(text.length() + 1);
            text.replace(at, Math.min(text.length(), at + random.nextInt(3)), ODD[random.nextInt(ODD.length)]);
        }
        return text.length() == 0 ? " " : text.toString();
    }

    private static void state(int run, TowerWarns x, Model model) throws Exception {
        Method of = TowerWarns.class.getMethod("of", int.class, int.class);
        for (int ship = 0; ship < model.world.ships.size(); ship++) {
            for (int what = 0; what < 12; what++) {
                ask(run, x, model, of, new long[] {ship, what});
            }
        }
        Method status = TowerWarns.class.getMethod("status", int.class);
        for (int which = -1; which < 7; which++) {
            ask(run, x, model, status, new long[] {which});
        }
    }
}
