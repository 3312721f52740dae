/** Promises 6 to 10: ships, what can be asked of one and set, its kind; and the tables of the kinds. */
public final class ShipsTest {
    private static final String[] NAMES = {"ship", "steamer", "boat", "drifter", "mail", "gig"};
    private static final int[] OUTSIDE = {Integer.MIN_VALUE, -1, 6, Integer.MAX_VALUE};

    public static void main(String[] args) {
        ship();
        ofOne();
        setOne();
        turn();
        as();
        distance();
        sees();
        speed();
        keepsOff();
        stands();
        Check.end("ShipsTest");
    }

    private static void ship() {
        TowerWarns x = new TowerWarns();
        for (int v : OUTSIDE) {
            Check.due("ship(" + v + ", 0)", x.ship(v, 0), Check.BEYOND);
            Check.due("ship(0, row)", x.ship(0, v == 6 ? 10 : v), Check.BEYOND);
        }
        for (int i = 0; i < 6; i++) {
            Check.due("ship number", x.ship(5 - i, i), i);
        }
        Check.due("a 7th", x.ship(0, 0), Check.FULL);
        Check.due("a 7th of no kind", x.ship(6, 0), Check.BEYOND);
        Check.due("a 7th in no row", x.ship(0, 10), Check.BEYOND);
        Check.due("six all the same", x.count(0), 6);
        for (int i = 0; i < 6; i++) {
            Check.due("kind of " + i, x.of(i, 0), 5 - i);
            Check.due("row of " + i, x.of(i, 2), i);
        }
        Check.due("FULL once", x.status(1), 1);
        Check.due("BEYOND ten times", x.status(0), 10);
    }

    private static void ofOne() {
        TowerWarns x = new TowerWarns();
        Check.due("of(0, 0) with none", x.of(0, 0), Check.BEYOND);
        x.ship(4, 7);
        int[] due = {4, 0, 7, 0, 99, 0, 0, 10, 0, 3, 100, 0};
        for (int what = 0; what < due.length; what++) {
            Check.due("of(0, " + what + ")", x.of(0, what), due[what]);
        }
        for (int v : OUTSIDE) {
            Check.due("of(" + v + ", 0)", x.of(v, 0), Check.BEYOND);
            Check.due("of(0, what)", x.of(0, v == 6 ? 12 : v), Check.BEYOND);
        }
        Check.due("of(1, 0)", x.of(1, 0), Check.BEYOND);
    }

    private static void setOne() {
        TowerWarns x = new TowerWarns();
        x.ship(0, 7);
        int[] most = {0, 19, 9, 9999, 99};
        int[] first = {0, 0, 7, 0, 99};
        for (int what = 1; what <= 4; what++) {
            Check.due("set first " + what, x.set(0, what, most[what]), first[what]);
            Check.due("set second " + what, x.set(0, what, 0), most[what]);
            Check.due("set third " + what, x.set(0, what, 3), 0);
            Check.due("set above " + what, x.set(0, what, most[what] + 1), Check.BEYOND);
            Check.due("set below " + what, x.set(0, what, -1), Check.BEYOND);
            Check.due("set far below " + what, x.set(0, what, Integer.MIN_VALUE), Check.BEYOND);
            Check.due("set stays " + what, x.of(0, what), 3);
            Check.due("set of none " + what, x.set(1, what, 0), Check.BEYOND);
            Check.due("set of -1 " + what, x.set(-1, what, 0), Check.BEYOND);
        }
        for (int what : new int[] {Integer.MIN_VALUE, -1, 0, 5, 6, Integer.MAX_VALUE}) {
            Check.due("set(0, " + what + ", 0)", x.set(0, what, 0), Check.BEYOND);
        }
        setOfOneThatEnded();
    }

    private static void setOfOneThatEnded() {
        TowerWarns x = new TowerWarns();
        Check.sea(x, "drifter 5 at 9;ship 0 at 19");
        x.hours(1);
        Check.due("column of one BY", x.of(1, 1), 20);
        Check.due("LOST", x.of(0, 5), 1);
        Check.due("BY", x.of(1, 6), 1);
        Check.due("distance of one BY", x.of(1, 7), 10);
        x.set(0, 2, 1);
        x.set(0, 4, 50);
        x.set(1, 3, 7);
        Check.due("still LOST", x.of(0, 5), 1);
        Check.due("still BY", x.of(1, 6), 1);
        Check.due("column was 10", x.set(0, 1, 0), 10);
        Check.due("column was 20", x.set(1, 1, 19), 20);
        Check.due("not LOST", x.of(0, 5), 0);
        Check.due("not BY", x.of(1, 6), 0);
        Check.due("NEAR stays", x.of(0, 4), 50);
        Check.due("COST stays", x.of(1, 3), 7);
        x.set(0, 2, 5);
        x.set(0, 1, 10);
        Check.due("set on the tower, it isn't LOST", x.of(0, 5), 0);
        Check.due("nor does NEAR change", x.of(0, 4), 50);
    }

    private static void turn() {
        TowerWarns x = new TowerWarns();
        x.ship(0, 4);
        x.set(0, 3, 12);
        for (int kind = 1; kind <= 5; kind++) {
            Check.due("turn to " + kind, x.turn(0, kind), kind - 1);
        }
        Check.due("turn to the same", x.turn(0, 5), 5);
        for (int v : OUTSIDE) {
            Check.due("turn(0, " + v + ")", x.turn(0, v), Check.BEYOND);
            Check.due("turn(" + v + ", 0)", x.turn(v, 0), Check.BEYOND);
        }
        Check.due("kind", x.of(0, 0), 5);
        Check.due("row stays", x.of(0, 2), 4);
        Check.due("cost stays", x.of(0, 3), 12);
    }

    private static void as() {
        String[] above = {"100000", "110000", "101000", "100100", "110010", "101001"};
        TowerWarns x = new TowerWarns();
        for (int i = 0; i < 6; i++) {
            x.ship(i, 0);
            x.set(i, 3, 100 + i);
        }
        for (int i = 0; i < 6; i++) {
            for (int kind = 0; kind < 6; kind++) {
                int due = above[i].charAt(kind) == '1' ? 100 + i : Check.KIND;
                Check.due("as(" + i + ", " + kind + ")", x.as(i, kind), due);
            }
        }
        for (int v : OUTSIDE) {
            Check.due("as(" + v + ", 0)", x.as(v, 0), Check.BEYOND);
            Check.due("as(0, " + v + ")", x.as(0, v), Check.BEYOND);
        }
        Check.due("KINDs told", x.status(2), 23);
    }

    private static void distance() {
        TowerWarns x = new TowerWarns();
        x.ship(0, 0);
        Check.due("by columns", x.of(0, 7), 10);
        x.set(0, 1, 10);
        Check.due("by rows", x.of(0, 7), 5);
        x.tower(7, 2);
        Check.due("behind the tower", x.of(0, 7), 3);
        x.tower(10, 0);
        Check.due("on the tower", x.of(0, 7), 0);
    }

    /** A sea in an hour of the day, with one of each kind at a distance west of the tower. */
    private static TowerWarns seaAt(int hour, int distance) {
        TowerWarns x = new TowerWarns();
        if (hour > 0) {
            x.hours(hour);
        }
        x.tower(18, 5);
        for (int kind = 0; kind < 6; kind++) {
            x.ship(kind, 5);
            x.set(kind, 1, 18 - distance);
        }
        return x;
    }

    private static void seen(String when, TowerWarns x, String due) {
        for (int kind = 0; kind < 6; kind++) {
            Check.due(NAMES[kind] + " sees, " + when, x.of(kind, 8), due.charAt(kind) - '0');
        }
    }

    private static void sees() {
        for (int hour : new int[] {0, 5, 6, 11}) {
            for (int d = 0; d <= 16; d++) {
                TowerWarns x = seaAt(hour, d);
                String when = "hour " + hour + ", distance " + d;
                if (hour < 6) {
                    seen(when, x, d <= 3 ? "111011" : "000001");
                    x.lamp(0);
                    seen(when + ", dark", x, d <= 3 ? "111011" : "000001");
                } else {
                    seen(when, x, d <= 2 ? "111011" : d <= 4 ? "110010" : d <= 6 ? "000010" : "000000");
                    x.lamp(4095 - (1 << hour));
                    seen(when + ", dark", x, d == 1 ? "011011" : d <= 2 ? "001001" : "000000");
                    x.lamp(1 << hour);
                    x.reach(0);
                    seen(when + ", reach 0", x, d == 0 ? "111011" : d == 1 ? "011011" : d == 2 ? "001011" : "000000");
                    x.reach(9);
                    seen(when + ", reach 9", x, d <= 2 ? "111011" : d <= 9 ? "110010" : d <= 11 ? "000010" : "000000");
                }
            }
        }
    }

    private static void speed() {
        for (int hour = 0; hour < 12; hour++) {
            TowerWarns x = seaAt(hour, 3);
            int[] due = {1, 2, 1, hour % 2 == 0 ? 1 : 0, 3, hour < 6 ? 2 : 1};
            for (int kind = 0; kind < 6; kind++) {
                Check.due(NAMES[kind] + " speed at " + hour, x.of(kind, 9), due[kind]);
            }
        }
    }

    private static void keepsOff() {
        for (int hour : new int[] {0, 6}) {
            for (int d = 0; d <= 10; d++) {
                TowerWarns x = seaAt(hour, d);
                int[] due = {101, 101, 102, 100, d > 3 ? 100 : 101, 99};
                for (int kind = 0; kind < 6; kind++) {
                    Check.due(NAMES[kind] + " keeps off at " + d, x.of(kind, 10), due[kind]);
                }
            }
        }
    }

    private static void stands() {
        for (int hour : new int[] {0, 5, 6, 11}) {
            for (int d = 0; d <= 3; d++) {
                TowerWarns x = seaAt(hour, d);
                for (int cost : new int[] {0, 4, 5, 9999}) {
                    x.set(4, 3, cost);
                    x.set(1, 3, cost);
                    int steamer = hour >= 6 && d == 1 ? 1 : 0;
                    int[] due = {0, steamer, 0, 0, cost < 5 ? steamer : 0, 0};
                    for (int kind = 0; kind < 6; kind++) {
                        Check.due(NAMES[kind] + " stands, hour " + hour + ", distance " + d, x.of(kind, 11), due[kind]);
                    }
                }
            }
        }
    }
}
