import java.util.ArrayList;
import java.util.List;
import java.util.regex.Matcher;
import java.util.regex.Pattern;

/**
 * The document once more, written otherwise than the class: hours go ship by ship over the whole sea,
 * kinds are tables, a look ahead is a deep copy, a text is cut into tokens first.
 */
final class Model {
    private static final int[] ABOVE = {-1, 0, 0, 0, 1, 2};
    private static final List<String> NAMES = List.of("ship", "steamer", "boat", "drifter", "mail", "gig");
    private static final Pattern TOKEN = Pattern.compile("[a-z]+|[0-9]+|[^ ]", Pattern.DOTALL);

    /** A ship is an int[]: KIND, COLUMN, ROW, COST, NEAR, LOST, BY. */
    static final class World {
        int hour = 0, column = 10, row = 5, lamp = 0xfc0, reach = 4;
        List<int[]> ships = new ArrayList<>();

        World twin() {
            World w = new World();
            w.hour = hour;
            w.column = column;
            w.row = row;
            w.lamp = lamp;
            w.reach = reach;
            for (int[] s : ships) {
                w.ships.add(s.clone());
            }
            return w;
        }

        int distance(int[] s) {
            return Math.max(Math.abs(s[1] - column), Math.abs(s[2] - row));
        }

        boolean night() {
            return hour % 12 > 5;
        }

        boolean burning() {
            return (lamp & 1 << hour % 12) != 0;
        }

        boolean sees(int[] s) {
            int d = distance(s);
            switch (NAMES.get(s[0])) {
                case "ship": return night() ? burning() && d <= reach : d <= 3;
                case "steamer": return d == 1 || (night() ? burning() && d <= reach : d <= 3);
                case "boat": return night() ? d <= 2 : d <= 3;
                case "drifter": return false;
                case "mail": return d == 1 || (night() ? burning() && d <= reach + 2 : d <= 3);
                default: return !night() || d <= 2;
            }
        }

        int speed(int[] s) {
            return new int[] {1, 2, 1, 1 - hour % 2, 3, night() ? 1 : 2}[s[0]];
        }

        int off(int[] s) {
            return new int[] {1, 1, 2, 0, distance(s) > 3 ? 0 : 1, -1}[s[0]];
        }

        boolean stands(int[] s) {
            return night() && distance(s) == 1 && (s[0] == 1 || (s[0] == 4 && s[3] < 5));
        }

        World after(int n) {
            World w = twin();
            for (int i = 0; i < n; i++) {
                for (int[] s : w.ships) {
                    if (s[5] == 0 && s[6] == 0) {
                        w.hourOf(s);
                    }
                }
                w.hour++;
            }
            return w;
        }

        private void hourOf(int[] s) {
            if (sees(s) && column >= s[1]) {
                if (stands(s)) {
                    s[3] = Math.min(9999, s[3] + 1);
                    return;
                }
                int v = off(s);
                int to;
                if (s[2] > row) {
                    to = s[2] + v;
                    if (to < row) to = row;
                    if (to > 9) to = 9;
                } else {
                    to = s[2] - v;
                    if (to > row) to = row;
                    if (to < 0) to = 0;
                }
                if (to != s[2]) {
                    s[2] = to;
                    s[3] = Math.min(9999, s[3] + 1);
                }
            }
            for (int left = speed(s); left > 0; left--) {
                s[1]++;
                if (s[1] == 20) {
                    s[6] = 1;
                    return;
                }
                if (distance(s) < s[4]) s[4] = distance(s);
                if (distance(s) == 0) {
                    s[5] = 1;
                    return;
                }
            }
        }

        int setOf(int what) {
            int set = 0;
            for (int i = 0; i < ships.size(); i++) {
                if (ships.get(i)[what] == 1) set += 1 << i;
            }
            return set;
        }

        int cost() {
            return ships.stream().mapToInt(s -> s[3]).sum();
        }

        /** The first of 0 to 100 hours in which one is LOST (5) or BY (6), or -1. */
        int first(int ship, int what) {
            World w = twin();
            for (int n = 0; n <= 100; n++) {
                if (w.ships.get(ship)[what] == 1) return n;
                w = w.after(1);
            }
            return -1;
        }
    }

    World world = new World();
    World kept = null;
    String tape = "";
    final long[][] sheets = new long[4][];
    final int[] bits = new int[4];
    final int[] told = new int[7];

    private int finding(int f) {
        told[Check.BEYOND - f]++;
        return f;
    }

    private boolean noShip(long ship) {
        return ship < 0 || ship >= world.ships.size();
    }

    private static boolean out(long v, long least, long most) {
        return v < least || v > most;
    }

    long answer(String name, long[] a) {
        switch (name) {
            case "tower": case "lamp": case "reach": case "now": return theTower(name, a);
            case "ship": case "of": case "set": case "turn": case "as": return ofShips(name, a);
            case "hours": case "on": case "then": case "comes": case "wrecks": return ofHours(name, a);
            case "row": case "kind": case "shine": case "hour": case "site": case "nearest": return best(name, a);
            case "feed": case "wipe": case "sea": return ofText(name, a);
            case "sheet": case "write": case "copy": case "lays": case "book": case "read": return ofSheets(name, a);
            default: return ofImages(name, a);
        }
    }

    private long theTower(String name, long[] a) {
        World w = world;
        long was;
        switch (name) {
            case "tower":
                if (out(a[0], 0, 19) || out(a[1], 0, 9)) return finding(Check.BEYOND);
                was = 10 * w.column + w.row;
                w.column = (int) a[0];
                w.row = (int) a[1];
                return was;
            case "lamp":
                if (out(a[0], 0, 4095)) return finding(Check.BEYOND);
                was = w.lamp;
                w.lamp = (int) a[0];
                return was;
            case "reach":
                if (out(a[0], 0, 9)) return finding(Check.BEYOND);
                was = w.reach;
                w.reach = (int) a[0];
                return was;
            default:
                if (out(a[0], 0, 7)) return finding(Check.BEYOND);
                return new int[] {w.hour, w.hour % 12, w.night() ? 1 : 0, w.burning() ? 1 : 0,
                    10 * w.column + w.row, w.reach, w.setOf(5), w.setOf(6)}[(int) a[0]];
        }
    }

    private long ofShips(String name, long[] a) {
        World w = world;
        if (name.equals("ship")) {
            if (out(a[0], 0, 5) || out(a[1], 0, 9)) return finding(Check.BEYOND);
            if (w.ships.size() == 6) return finding(Check.FULL);
            w.ships.add(new int[] {(int) a[0], 0, (int) a[1], 0, 99, 0, 0});
            return w.ships.size() - 1;
        }
        if (noShip(a[0])) return finding(Check.BEYOND);
        int[] s = w.ships.get((int) a[0]);
        int was;
        switch (name) {
            case "of":
                if (out(a[1], 0, 11)) return finding(Check.BEYOND);
                return new int[] {s[0], s[1], s[2], s[3], s[4], s[5], s[6], w.distance(s), w.sees(s) ? 1 : 0,
                    w.speed(s), 100 + w.off(s), w.stands(s) ? 1 : 0}[(int) a[1]];
            case "set":
                if (out(a[1], 1, 4) || out(a[2], 0, new int[] {0, 19, 9, 9999, 99}[(int) a[1]])) {
                    return finding(Check.BEYOND);
                }
                was = s[(int) a[1]];
                s[(int) a[1]] = (int) a[2];
                if (a[1] == 1) s[5] = s[6] = 0;
                return was;
            case "turn":
                if (out(a[1], 0, 5)) return finding(Check.BEYOND);
                was = s[0];
                s[0] = (int) a[1];
                return was;
            default:
                if (out(a[1], 0, 5)) return finding(Check.BEYOND);
                for (int k = s[0]; k >= 0; k = ABOVE[k]) {
                    if (k == a[1]) return s[3];
                }
                return finding(Check.KIND);
        }
    }

    private long ofHours(String name, long[] a) {
        switch (name) {
            case "hours":
                if (out(a[0], 1, 100)) return finding(Check.BEYOND);
                if (world.hour + a[0] > 99999) return finding(Check.STATE);
                world = world.after((int) a[0]);
                return world.setOf(6);
            case "on":
                if (noShip(a[0]) || out(a[1], 0, 100) || out(a[2], 0, 3)) return finding(Check.BEYOND);
                return world.after((int) a[1]).ships.get((int) a[0])[(int) a[2] + 1];
            case "then":
                if (out(a[0], 0, 100) || out(a[1], 0, 1)) return finding(Check.BEYOND);
                return world.after((int) a[0]).setOf(5 + (int) a[1]);
            default:
                if (noShip(a[0])) return finding(Check.BEYOND);
                int n = world.first((int) a[0], name.equals("comes") ? 6 : 5);
                return n < 0 ? finding(Check.NONE) : n;
        }
    }

    private long best(String name, long[] a) {
        if (name.equals("row") || name.equals("kind")) {
            if (noShip(a[0])) return finding(Check.BEYOND);
            int[] s = world.ships.get((int) a[0]);
            if (s[5] + s[6] > 0) return finding(Check.STATE);
            int least = Integer.MAX_VALUE;
            for (int v = 0; v < (name.equals("row") ? 10 : 6); v++) {
                World w = world.twin();
                w.ships.get((int) a[0])[name.equals("row") ? 2 : 0] = v;
                int n = w.first((int) a[0], 6);
                if (n >= 0) least = Math.min(least, 100 * n + v);
            }
            return least == Integer.MAX_VALUE ? finding(Check.NONE) : least % 100;
        }
        int n = (int) a[0];
        if (name.equals("nearest")) {
            if (out(n, 0, 100)) return finding(Check.BEYOND);
            if (world.ships.isEmpty()) return finding(Check.NONE);
            int least = Integer.MAX_VALUE;
            World w = world.after(n);
            for (int i = 0; i < w.ships.size(); i++) {
                least = Math.min(least, 10 * w.ships.get(i)[4] + i);
            }
            return least % 10;
        }
        if (out(n, 1, name.equals("site") ? 40 : 60)) return finding(Check.BEYOND);
        long least = Long.MAX_VALUE;
        int options = name.equals("shine") ? 10 : name.equals("hour") ? 12 : 200;
        for (int v = 0; v < options; v++) {
            World w = world.twin();
            if (name.equals("shine")) w.reach = v;
            if (name.equals("hour")) w.lamp ^= 1 << v;
            if (name.equals("site")) {
                w.column = v / 10;
                w.row = v % 10;
            }
            w = w.after(n);
            long lost = name.equals("hour") ? 0 : Integer.bitCount(w.setOf(5));
            long cost = name.equals("shine") ? 0 : w.cost();
            least = Math.min(least, (lost * 1000000 + cost) * 1000 + v);
        }
        return least % 1000;
    }

    private long ofText(String name, long[] a) {
        int had = tape.length();
        switch (name) {
            case "feed":
                if (out(a[1], 1, 4)) return finding(Check.BEYOND);
                if (had + a[1] > 120) return finding(Check.FULL);
                String all = "" + (char) (a[0] >> 24 & 255) + (char) (a[0] >> 16 & 255) + (char) (a[0] >> 8 & 255)
                    + (char) (a[0] & 255);
                tape += all.substring(4 - (int) a[1]);
                return tape.length();
            case "wipe":
                tape = "";
                return had;
            default:
                World w = world.twin();
                int items = parse(w);
                if (items > 0) world = w;
                tape = "";
                return items;
        }
    }

    private int parse(World w) {
        List<String> tokens = new ArrayList<>();
        List<Integer> places = new ArrayList<>();
        Matcher m = TOKEN.matcher(tape);
        while (m.find()) {
            tokens.add(m.group());
            places.add(m.start());
        }
        tokens.add("");
        places.add(tape.length());
        int at = 0;
        int items = 0;
        while (true) {
            String word = tokens.get(at);
            int kind = NAMES.indexOf(word);
            int[] most = kind >= 0 && w.ships.size() < 6 ? new int[] {9} : word.equals("tower") ? new int[] {19, 9}
                : word.equals("burns") || word.equals("dark") ? new int[] {11} : word.equals("reach") ? new int[] {9} : null;
            if (most == null) return -1 - places.get(at);
            int[] v = new int[2];
            for (int i = 0; i < most.length; i++) {
                at++;
                v[i] = numeral(tokens.get(at), most[i]);
                if (v[i] < 0) return -1 - places.get(at);
            }
            at++;
            if (kind >= 0) {
                int column = 0;
                if (tokens.get(at).equals("at")) {
                    column = numeral(tokens.get(at + 1), 19);
                    if (column < 0) return -1 - places.get(at + 1);
                    at += 2;
                }
                w.ships.add(new int[] {kind, column, v[0], 0, 99, 0, 0});
            }
            if (word.equals("tower")) {
                w.column = v[0];
                w.row = v[1];
            }
            if (word.equals("burns")) w.lamp |= 1 << v[0];
            if (word.equals("dark")) w.lamp &= ~(1 << v[0]);
            if (word.equals("reach")) w.reach = v[0];
            items++;
            if (tokens.get(at).isEmpty()) return items;
            if (!tokens.get(at).equals(";")) return -1 - places.get(at);
            at++;
        }
    }

    private static int numeral(String token, int most) {
        if (!token.matches("[0-9]+")) return -1;
        java.math.BigInteger v = new java.math.BigInteger(token);
        return v.bitLength() < 20 && v.intValue() <= most ? v.intValue() : -1;
    }

    private long ofSheets(String name, long[] a) {
        if (out(a[0], 0, 3)) return finding(Check.BEYOND);
        int s = (int) a[0];
        switch (name) {
            case "sheet":
                if (!List.of(0L, 8L, 16L, 64L).contains(a[1])) return finding(Check.BEYOND);
                if (a[2] < 0) return finding(Check.SIZE);
                if (a[2] > 40) return finding(Check.BEYOND);
                bits[s] = (int) a[1];
                sheets[s] = a[1] == 0 ? null : new long[(int) a[2]];
                return a[1] == 0 ? 0 : a[2];
            case "copy":
                if (out(a[2], 0, 3)) return finding(Check.BEYOND);
                int t = (int) a[2];
                if (sheets[s] == null || sheets[t] == null) return finding(Check.MISSING);
                if (bits[s] != bits[t]) return finding(Check.KIND);
                if (a[1] < 0 || a[3] < 0 || a[4] < 0 || a[1] + a[4] > sheets[s].length || a[3] + a[4] > sheets[t].length) {
                    return finding(Check.BEYOND);
                }
                long[] old = sheets[s].clone();
                for (int i = 0; i < a[4]; i++) sheets[t][(int) a[3] + i] = old[(int) a[1] + i];
                return a[4];
            default:
                return sheets[s] == null ? finding(Check.MISSING) : withSheet(name, s, a);
        }
    }

    private long withSheet(String name, int s, long[] a) {
        long[] sheet = sheets[s];
        if (name.equals("write")) {
            if (out(a[1], 0, sheet.length - 1)) return finding(Check.BEYOND);
            long was = sheet[(int) a[1]];
            sheet[(int) a[1]] = a[2] << 64 - bits[s] >> 64 - bits[s];
            return was;
        }
        if (name.equals("lays")) {
            int came = 0;
            for (int i = 0; i < Math.min(sheet.length, world.ships.size()); i++) {
                if (!out(sheet[i], 0, 9)) {
                    world.ships.get(i)[2] = (int) sheet[i];
                    came++;
                }
            }
            return came;
        }
        if (noShip(a[1])) return finding(Check.BEYOND);
        if (name.equals("book")) {
            for (int i = 0; i < sheet.length; i++) sheet[i] = world.after(i).ships.get((int) a[1])[2];
            return sheet.length;
        }
        int pairs = 0;
        for (int k = 0; k < 6; k++) {
            for (int r = 0; r < 10; r++) {
                World w = world.twin();
                w.reach = r;
                w.ships.get((int) a[1])[0] = k;
                boolean so = true;
                for (int i = 0; i < sheet.length && so; i++) {
                    so = w.ships.get((int) a[1])[2] == sheet[i];
                    w = w.after(1);
                }
                if (so) pairs++;
            }
        }
        return pairs;
    }

    private long ofImages(String name, long[] a) {
        switch (name) {
            case "image":
                kept = world.twin();
                return 1;
            case "undo":
                if (kept == null) return finding(Check.NONE);
                world = kept.twin();
                return world.ships.size();
            case "tear":
                int was = kept == null ? 0 : 1;
                kept = null;
                return was;
            case "count":
                if (out(a[0], 0, 3)) return finding(Check.BEYOND);
                return new int[] {world.ships.size(), tape.length(), Integer.bitCount(world.lamp), world.cost()}[(int) a[0]];
            default:
                if (out(a[0], -1, 6)) return finding(Check.BEYOND);
                if (a[0] >= 0) return told[(int) a[0]];
                int all = 0;
                for (int v : told) all += v;
                return all;
        }
    }
}
