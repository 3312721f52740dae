/** Promises 16 to 21: what is best. */
public final class BestTest {
    public static void main(String[] args) {
        row();
        kind();
        shine();
        hour();
        site();
        nearest();
        Check.end("BestTest");
    }

    private static TowerWarns sea(String text) {
        TowerWarns x = new TowerWarns();
        Check.holds("'" + text + "' is a sea", Check.sea(x, text) > 0);
        return x;
    }

    private static void notShips(TowerWarns x, int size) {
        for (int v : new int[] {Integer.MIN_VALUE, -1, size, Integer.MAX_VALUE}) {
            Check.due("row(" + v + ")", x.row(v), Check.BEYOND);
            Check.due("kind(" + v + ")", x.kind(v), Check.BEYOND);
        }
    }

    private static void row() {
        TowerWarns x = sea("ship 5;drifter 5;ship 0 at 19");
        Check.due("all rows alike: the least", x.row(0), 0);
        Check.due("a drifter", x.row(1), 0);
        x.tower(10, 0);
        Check.due("a drifter, but not in the tower's row", x.row(1), 1);
        Check.due("a ship by a tower in row 0", x.row(0), leastRow(x, 0));
        x.hours(1);
        Check.due("BY", x.row(2), Check.STATE);
        TowerWarns gigs = sea("tower 4 4;gig 0");
        Check.due("a gig out of the tower's way", gigs.row(0), leastRow(gigs, 0));
        Check.due("only from row 9 a gig comes by", sea("tower 19 0;gig 4").row(0), 9);
        TowerWarns drawn = sea("tower 19 5;gig 0");
        Check.due("a gig that is LOST from every row", drawn.row(0), Check.NONE);
        Check.due("its row stays", drawn.of(0, 2), 0);
        Check.due("one NONE", drawn.status(3), 1);
        TowerWarns lost = sea("drifter 5 at 9");
        lost.hours(1);
        Check.due("LOST", lost.row(0), Check.STATE);
        TowerWarns slow = sea("drifter 0");
        slow.hours(6);
        Check.sea(slow, "tower 1 1;steamer 0;dark 6");
        Check.due("out of the steamer's sight", slow.row(1), leastRow(slow, 1));
        Check.due("which isn't the one it stands in", slow.row(1), 3);
        notShips(x, 3);
    }

    /** The same by trying all rows with set() and comes(). */
    private static int leastRow(TowerWarns x, int ship) {
        int was = x.of(ship, 2);
        int best = Check.NONE;
        int soonest = 101;
        for (int row = 0; row <= 9; row++) {
            x.set(ship, 2, row);
            int n = x.comes(ship);
            if (n >= 0 && n < soonest) {
                soonest = n;
                best = row;
            }
        }
        x.set(ship, 2, was);
        return best;
    }

    private static void kind() {
        TowerWarns x = sea("ship 5;drifter 5 at 9;ship 0 at 19;ship 0 at 18;ship 0 at 17;drifter 0");
        Check.due("mail is fastest", x.kind(0), 4);
        Check.due("one column: as a ship", x.kind(2), 0);
        Check.due("two columns: as a steamer", x.kind(3), 1);
        Check.due("three columns: as mail", x.kind(4), 4);
        x.hours(1);
        Check.due("LOST", x.kind(1), Check.STATE);
        Check.due("BY", x.kind(2), Check.STATE);
        Check.due("the kind stays", x.of(0, 0), 0);
        notShips(x, 6);
        TowerWarns y = sea("drifter 0");
        y.hours(6);
        Check.sea(y, "tower 1 0;ship 0;dark 6;dark 7;dark 8;dark 9;dark 10;dark 11");
        Check.due("at night by the tower a boat is first that comes by", y.kind(1), leastKind(y, 1));
        TowerWarns dawn = new TowerWarns();
        dawn.hours(10);
        Check.sea(dawn, "tower 16 5;ship 4 at 16");
        Check.due("by night beside the tower steamers stand, and the gig is fast by day", dawn.kind(0), 5);
        dawn.set(0, 3, 5);
        Check.due("but mail with COST stands no more", dawn.kind(0), 4);
        TowerWarns z = sea("tower 1 0;ship 0");
        z.reach(0);
        Check.due("in row 0 by day nobody turns: NONE", z.kind(0), Check.NONE);
        Check.due("one NONE", z.status(3), 1);
    }

    private static int leastKind(TowerWarns x, int ship) {
        int was = x.of(ship, 0);
        int best = Check.NONE;
        int soonest = 101;
        for (int kind = 0; kind <= 5; kind++) {
            x.turn(ship, kind);
            int n = x.comes(ship);
            if (n >= 0 && n < soonest) {
                soonest = n;
                best = kind;
            }
        }
        x.turn(ship, was);
        return best;
    }

    /** The hour of the day is 6, the lamp is as it was at first. */
    private static TowerWarns night(String text) {
        TowerWarns x = new TowerWarns();
        x.hours(6);
        Check.holds("'" + text + "' is a sea", Check.sea(x, text) > 0);
        return x;
    }

    private static void shine() {
        Check.due("nobody there", new TowerWarns().shine(1), 0);
        TowerWarns x = night("ship 5 at 8");
        Check.due("too soon to be LOST", x.shine(1), 0);
        Check.due("it must see it one column off", x.shine(2), 1);
        x.set(0, 2, 4);
        Check.due("in another row none is needed", x.shine(2), 0);
        TowerWarns fast = night("steamer 5 at 8;drifter 5 at 9;ship 5 at 9");
        Check.due("a steamer must see it two columns off", fast.shine(1), 2);
        TowerWarns mail = night("mail 5 at 7");
        Check.due("mail sees two further", mail.shine(1), 1);
        TowerWarns once = night("steamer 5 at 2;ship 5 at 4");
        once.lamp(64);
        Check.due("only now it burns: the ship must see it six columns off, the steamer eight", once.shine(6), 8);
        once.set(0, 1, 0);
        Check.due("ten columns off is too far", once.shine(6), 6);
        x.lamp(0);
        x.set(0, 2, 5);
        Check.due("in the dark it is all the same", x.shine(2), 0);
        Check.due("REACH stays", x.now(5), 4);
        for (int n : new int[] {Integer.MIN_VALUE, -1, 0, 61, Integer.MAX_VALUE}) {
            Check.due("shine(" + n + ")", x.shine(n), Check.BEYOND);
            Check.due("hour(" + n + ")", x.hour(n), Check.BEYOND);
        }
        Check.due("shine(60)", x.shine(60), 0);
        Check.due("hour(60) once the night is dark", x.hour(60), 0);
    }

    private static void hour() {
        Check.due("nobody there", new TowerWarns().hour(60), 0);
        TowerWarns x = night("ship 0 at 9;ship 2 at 6");
        Check.due("it turns in this hour, so dark in this hour", x.hour(1), 6);
        x.hours(1);
        Check.due("two turnings before: dark in the next", x.hour(1), 7);
        Check.due("the lamp stays", x.lamp(0), 4032);
        Check.due("a dark night costs least with any hour of the day lit", x.hour(2), 0);
        x.lamp(128);
        Check.due("the one lit hour out", x.hour(1), 7);
        TowerWarns tie = night("ship 2 at 6;ship 1 at 6");
        Check.due("of several the least", tie.hour(12), leastHour(tie, 12));
    }

    private static int leastHour(TowerWarns x, int n) {
        int was = x.lamp(0);
        int best = 0;
        int least = 1000000;
        for (int h = 0; h < 12; h++) {
            x.lamp(was ^ (1 << h));
            int cost = 0;
            for (int ship = 0; ship < x.count(0); ship++) {
                cost += x.on(ship, n, 2);
            }
            if (cost < least) {
                least = cost;
                best = h;
            }
        }
        x.lamp(was);
        return best;
    }

    private static void site() {
        Check.due("nobody there", new TowerWarns().site(40), 0);
        TowerWarns x = new TowerWarns();
        Check.sea(x, "ship 0;ship 2 at 1;drifter 4 at 2");
        Check.due("one hour", x.site(1), leastSite(x, 1));
        Check.due("many hours", x.site(40), 0);
        Check.due("the tower stays", x.now(4), 105);
        TowerWarns near = sea("ship 0;drifter 1;drifter 2;drifter 3;gig 4");
        Check.due("a gig by the shore", near.site(3), leastSite(near, 3));
        TowerWarns lost = sea("drifter 5 at 9;ship 0");
        lost.hours(1);
        Check.due("one LOST already", lost.site(20), leastSite(lost, 20));
        TowerWarns gig = sea("gig 0;gig 9;gig 5;drifter 0");
        Check.due("gigs", gig.site(5), leastSite(gig, 5));
        TowerWarns seen = sea("ship 3;ship 6");
        Check.due("where nobody sees it in an hour", seen.site(1), 40);
        Check.due("where nobody sees it in two hours", seen.site(2), 50);
        Check.due("where nobody sees it in sixteen hours", seen.site(16), 190);
        Check.sea(seen, "drifter 0 at 18;drifter 1 at 18");
        Check.due("nor runs on it", seen.site(16), 192);
        for (int n : new int[] {Integer.MIN_VALUE, -1, 0, 41, Integer.MAX_VALUE}) {
            Check.due("site(" + n + ")", x.site(n), Check.BEYOND);
        }
    }

    private static int leastSite(TowerWarns x, int n) {
        int was = x.now(4);
        int best = 0;
        int least = Integer.MAX_VALUE;
        for (int place = 0; place < 200; place++) {
            x.tower(place / 10, place % 10);
            int figure = 1000000 * Integer.bitCount(x.then(n, 0));
            for (int ship = 0; ship < x.count(0); ship++) {
                figure += x.on(ship, n, 2);
            }
            if (figure < least) {
                least = figure;
                best = place;
            }
        }
        x.tower(was / 10, was % 10);
        return best;
    }

    private static void nearest() {
        TowerWarns none = new TowerWarns();
        Check.due("nobody there", none.nearest(0), Check.NONE);
        Check.due("nobody there, and too far ahead", none.nearest(101), Check.BEYOND);
        TowerWarns x = sea("ship 0;ship 5;drifter 5;ship 9");
        Check.due("all at 99: the least", x.nearest(0), 0);
        Check.due("one hour on all are at 9", x.nearest(1), 0);
        Check.due("the drifter is LOST in the end", x.nearest(100), 2);
        x.set(3, 4, 8);
        Check.due("it was near once", x.nearest(1), 3);
        x.set(1, 4, 8);
        Check.due("of two the least", x.nearest(1), 1);
        for (int n : new int[] {Integer.MIN_VALUE, -1, 101, Integer.MAX_VALUE}) {
            Check.due("nearest(" + n + ")", x.nearest(n), Check.BEYOND);
        }
    }
}
