/** Promises 11 to 15: hours that go, and what is ahead. */
public final class HoursTest {
    public static void main(String[] args) {
        hours();
        lastHour();
        turningAway();
        theGigTurnsIn();
        seaEdges();
        standing();
        goingOn();
        costIsHeld();
        ahead();
        then();
        comesAndWrecks();
        Check.end("HoursTest");
    }

    private static TowerWarns sea(String text) {
        TowerWarns x = new TowerWarns();
        Check.holds("'" + text + "' is a sea", Check.sea(x, text) > 0);
        return x;
    }

    private static void is(String what, TowerWarns x, int ship, int column, int row, int cost, int near) {
        Check.due(what + ": column", x.of(ship, 1), column);
        Check.due(what + ": row", x.of(ship, 2), row);
        Check.due(what + ": cost", x.of(ship, 3), cost);
        Check.due(what + ": near", x.of(ship, 4), near);
    }

    private static void hours() {
        TowerWarns x = sea("ship 0 at 19;ship 0 at 18;drifter 0 at 19;mail 9 at 10");
        Check.due("first hour", x.hours(1), 0b0101);
        Check.due("second hour", x.hours(1), 0b0111);
        Check.due("100 hours", x.hours(100), 0b1111);
        Check.due("hour", x.now(0), 102);
        for (int n : new int[] {Integer.MIN_VALUE, -1, 0, 101, Integer.MAX_VALUE}) {
            Check.due("hours(" + n + ")", x.hours(n), Check.BEYOND);
        }
        Check.due("hour stays", x.now(0), 102);
        for (int i = 0; i < 300; i++) {
            x.hours(100);
        }
        Check.due("late hour", x.now(0), 30102);
        Check.due("late hour of the day", x.now(1), 30102 % 12);
    }

    /** Takes more calls than an object is promised for: the document's limit can't be reached with fewer. */
    private static void lastHour() {
        TowerWarns x = new TowerWarns();
        for (int i = 0; i < 999; i++) {
            x.hours(100);
        }
        Check.due("one hour too many", x.hours(100), Check.STATE);
        Check.due("up to the last", x.hours(99), 0);
        Check.due("the last hour", x.now(0), 99999);
        Check.due("no more", x.hours(1), Check.STATE);
        Check.due("BEYOND before STATE", x.hours(0), Check.BEYOND);
        Check.due("STATE told", x.status(4), 2);
        x.ship(0, 0);
        Check.due("a look ahead still goes on", x.comes(0), 20);
    }

    private static void turningAway() {
        TowerWarns x = sea("ship 5 at 7;ship 4 at 7;ship 6 at 7;boat 5 at 7;boat 6 at 7;steamer 6 at 7");
        x.hours(1);
        is("in the tower's row", x, 0, 8, 4, 1, 2);
        is("in a lesser row", x, 1, 8, 3, 1, 2);
        is("in a greater row", x, 2, 8, 7, 1, 2);
        is("a boat in the tower's row", x, 3, 8, 3, 1, 2);
        is("a boat in a greater row", x, 4, 8, 8, 1, 3);
        is("a steamer", x, 5, 9, 7, 1, 2);
        TowerWarns y = sea("ship 5 at 6;ship 5 at 11;ship 5 at 10;drifter 5 at 7;mail 5 at 6");
        y.hours(1);
        is("too far to see", y, 0, 7, 5, 0, 3);
        is("past the tower", y, 1, 12, 5, 0, 2);
        is("in the tower's column", y, 2, 11, 4, 1, 1);
        is("a drifter", y, 3, 8, 5, 0, 2);
        is("mail, too far", y, 4, 9, 5, 0, 1);
    }

    private static void theGigTurnsIn() {
        TowerWarns x = sea("gig 2;gig 8;gig 5;gig 4;gig 6");
        x.hours(1);
        is("gig above", x, 0, 2, 3, 1, 8);
        is("gig below", x, 1, 2, 7, 1, 8);
        is("gig in the tower's row", x, 2, 2, 5, 0, 8);
        is("gig next above", x, 3, 2, 5, 1, 8);
        is("gig next below", x, 4, 2, 5, 1, 8);
        x.hours(4);
        Check.due("they are LOST in the 5th hour", x.now(6), 0b11111);
        is("gig that was LOST", x, 0, 10, 5, 3, 0);
    }

    private static void seaEdges() {
        TowerWarns x = sea("tower 12 0;ship 0 at 10;boat 0 at 10;gig 0 at 9;gig 1 at 9");
        x.hours(1);
        is("no row below 0", x, 0, 11, 0, 0, 1);
        is("a boat neither", x, 1, 11, 0, 0, 1);
        is("the gig stays with the tower", x, 2, 11, 0, 0, 1);
        is("the gig comes to it", x, 3, 11, 0, 1, 1);
        TowerWarns y = sea("tower 12 8;ship 9 at 10;boat 9 at 10;ship 8 at 10;boat 1 at 10");
        y.hours(1);
        is("no row above 9", y, 0, 11, 9, 0, 1);
        is("a boat neither", y, 1, 11, 9, 0, 1);
        is("away from the tower's row", y, 2, 11, 7, 1, 1);
        is("a boat too far away", y, 3, 11, 1, 0, 7);
        TowerWarns z = sea("tower 12 2;boat 1 at 10;boat 8 at 10;tower 12 7;boat 8 at 10");
        z.hours(1);
        is("a boat cut off at row 9", z, 2, 11, 9, 1, 2);
        z = sea("tower 12 2;boat 1 at 10");
        z.hours(1);
        is("a boat cut off at row 0", z, 0, 11, 0, 1, 2);
    }

    private static void standing() {
        TowerWarns x = sea("dark 0");
        x.hours(10);
        Check.sea(x, "steamer 5 at 9;mail 5 at 9;mail 5 at 9;steamer 4 at 11;ship 5 at 6");
        x.set(2, 3, 4);
        x.hours(1);
        is("the steamer stands", x, 0, 9, 5, 1, 99);
        is("mail stands", x, 1, 9, 5, 1, 99);
        is("mail with COST 4 stands", x, 2, 9, 5, 5, 99);
        is("a steamer that is past goes on", x, 3, 13, 4, 0, 2);
        is("a ship turns", x, 4, 7, 4, 1, 3);
        x.hours(1);
        is("the steamer stands again", x, 0, 9, 5, 2, 99);
        is("mail with COST 5 goes", x, 2, 12, 4, 6, 1);
        x.hours(1);
        is("by day the steamer goes", x, 0, 11, 4, 3, 1);
    }

    private static void goingOn() {
        TowerWarns x = sea("drifter 5 at 9;steamer 5 at 9;mail 5 at 17;mail 5 at 16;drifter 5 at 19");
        x.set(1, 4, 0);
        x.hours(1);
        is("LOST on the tower", x, 0, 10, 5, 0, 0);
        is("a steamer by day", x, 1, 11, 4, 1, 0);
        is("past 19", x, 2, 20, 5, 0, 8);
        is("not past 19", x, 3, 19, 5, 0, 7);
        is("NEAR isn't of column 20", x, 4, 20, 5, 0, 99);
        Check.due("who is LOST", x.now(6), 0b00001);
        Check.due("who is BY", x.now(7), 0b10100);
        x.tower(0, 0);
        x.hours(9);
        is("LOST stays", x, 0, 10, 5, 0, 0);
        is("BY stays", x, 2, 20, 5, 0, 8);
        TowerWarns y = sea("tower 3 5;drifter 5;drifter 9 at 3;drifter 9 at 3");
        y.set(2, 4, 2);
        y.hours(2);
        is("a drifter in an even hour alone", y, 0, 1, 5, 0, 2);
        is("NEAR is the least", y, 1, 4, 9, 0, 4);
        is("NEAR grows never", y, 2, 4, 9, 0, 2);
        TowerWarns z = sea("drifter 0");
        z.lamp(0);
        z.hours(6);
        Check.sea(z, "tower 12 5;mail 5 at 9;mail 5 at 10;mail 5 at 8");
        z.hours(1);
        is("LOST in the last of three columns", z, 1, 12, 5, 0, 0);
        is("LOST in the second, it goes no further", z, 2, 12, 5, 0, 0);
        is("not LOST, the tower unseen", z, 3, 11, 5, 0, 1);
        Check.due("who is LOST in the dark", z.now(6), 0b0110);
    }

    private static void costIsHeld() {
        TowerWarns x = sea("ship 5 at 8");
        x.set(0, 3, 9998);
        x.hours(1);
        Check.due("COST 9999", x.of(0, 3), 9999);
        x.hours(1);
        Check.due("COST held", x.of(0, 3), 9999);
        Check.due("row all the same", x.of(0, 2), 3);
        TowerWarns y = sea("drifter 0");
        y.hours(6);
        Check.sea(y, "steamer 5 at 9");
        y.set(1, 3, 9999);
        y.hours(1);
        Check.due("COST held standing", y.of(1, 3), 9999);
    }

    private static void ahead() {
        String text = "ship 5 at 6;steamer 5;boat 4;drifter 5;mail 6;gig 2";
        TowerWarns x = sea(text);
        TowerWarns y = sea(text);
        for (int n = 0; n <= 100; n++) {
            for (int ship = 0; ship < 6; ship++) {
                for (int what = 0; what < 4; what++) {
                    if (n % 10 < 3) {
                        Check.due("on(" + ship + ", " + n + ", " + what + ")", x.on(ship, n, what), y.of(ship, what + 1));
                    }
                }
            }
            Check.due("then(" + n + ", 0)", x.then(n, 0), y.now(6));
            Check.due("then(" + n + ", 1)", x.then(n, 1), y.now(7));
            y.hours(1);
        }
        Check.due("nothing changes", x.now(0), 0);
        is("nor does a ship", x, 0, 6, 5, 0, 99);
        for (int v : new int[] {Integer.MIN_VALUE, -1, 101, Integer.MAX_VALUE}) {
            Check.due("on(0, " + v + ", 0)", x.on(0, v, 0), Check.BEYOND);
            Check.due("on(0, 0, " + v + ")", x.on(0, 0, v), Check.BEYOND);
            Check.due("on(" + v + ", 0, 0)", x.on(v, 0, 0), Check.BEYOND);
        }
        Check.due("on(6, 0, 0)", x.on(6, 0, 0), Check.BEYOND);
        Check.due("on(0, 0, 4)", x.on(0, 0, 4), Check.BEYOND);
    }

    private static void then() {
        TowerWarns x = sea("drifter 5 at 9;ship 0 at 19");
        Check.due("LOST now", x.then(0, 0), 0);
        Check.due("BY now", x.then(0, 1), 0);
        Check.due("LOST", x.then(1, 0), 1);
        Check.due("BY", x.then(1, 1), 2);
        for (int v : new int[] {Integer.MIN_VALUE, -1, 101, Integer.MAX_VALUE}) {
            Check.due("then(" + v + ", 0)", x.then(v, 0), Check.BEYOND);
            Check.due("then(0, " + v + ")", x.then(0, v), Check.BEYOND);
        }
        Check.due("then(0, 2)", x.then(0, 2), Check.BEYOND);
    }

    private static void comesAndWrecks() {
        TowerWarns x = sea("drifter 5 at 9;ship 0 at 19;drifter 0;drifter 5;steamer 0 at 18");
        int[] comes = {Check.NONE, 1, 39, Check.NONE, 1};
        int[] wrecks = {1, Check.NONE, Check.NONE, 19, Check.NONE};
        for (int i = 0; i < 5; i++) {
            Check.due("comes(" + i + ")", x.comes(i), comes[i]);
            Check.due("wrecks(" + i + ")", x.wrecks(i), wrecks[i]);
        }
        Check.due("nothing changes", x.now(0), 0);
        x.hours(1);
        Check.due("LOST now", x.wrecks(0), 0);
        Check.due("LOST, so never BY", x.comes(0), Check.NONE);
        Check.due("BY now", x.comes(1), 0);
        Check.due("BY, so never LOST", x.wrecks(1), Check.NONE);
        Check.due("an hour nearer", x.comes(2), 38);
        Check.due("NONE told", x.status(3), 7);
        for (int v : new int[] {Integer.MIN_VALUE, -1, 5, Integer.MAX_VALUE}) {
            Check.due("comes(" + v + ")", x.comes(v), Check.BEYOND);
            Check.due("wrecks(" + v + ")", x.wrecks(v), Check.BEYOND);
        }
    }
}
