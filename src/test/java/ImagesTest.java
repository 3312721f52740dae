/** Promises 31 to 35: images, counts and the status. */
public final class ImagesTest {
    public static void main(String[] args) {
        image();
        whatIsKept();
        whatIsNotKept();
        count();
        status();
        Check.end("ImagesTest");
    }

    private static void image() {
        TowerWarns x = new TowerWarns();
        Check.due("nothing kept", x.undo(), Check.NONE);
        Check.due("nothing to tear", x.tear(), 0);
        Check.due("image", x.image(), 1);
        x.ship(0, 0);
        Check.due("undo", x.undo(), 0);
        x.ship(0, 0);
        x.ship(0, 0);
        Check.due("another image", x.image(), 1);
        x.ship(0, 0);
        Check.due("the latest", x.undo(), 2);
        x.ship(0, 0);
        Check.due("which stays", x.undo(), 2);
        Check.due("tear", x.tear(), 1);
        Check.due("tear again", x.tear(), 0);
        Check.due("undo nothing", x.undo(), Check.NONE);
        Check.due("the sea stays", x.count(0), 2);
        Check.due("NONE told", x.status(3), 2);
    }

    private static void whatIsKept() {
        TowerWarns x = new TowerWarns();
        Check.sea(x, "drifter 5 at 9;ship 0 at 19;mail 5 at 6;boat 5 at 8");
        x.hours(1);
        x.set(2, 3, 7);
        x.image();
        int[][] due = new int[4][12];
        for (int ship = 0; ship < 4; ship++) {
            for (int what = 0; what < 12; what++) {
                due[ship][what] = x.of(ship, what);
            }
        }
        x.hours(30);
        x.tower(1, 1);
        x.lamp(1);
        x.reach(1);
        for (int ship = 0; ship < 4; ship++) {
            x.turn(ship, 5);
            x.set(ship, 1, 1);
            x.set(ship, 2, 2);
            x.set(ship, 3, 3);
            x.set(ship, 4, 4);
        }
        x.ship(0, 0);
        Check.due("undo", x.undo(), 4);
        for (int ship = 0; ship < 4; ship++) {
            for (int what = 0; what < 12; what++) {
                Check.due("of(" + ship + ", " + what + ")", x.of(ship, what), due[ship][what]);
            }
        }
        Check.due("hour", x.now(0), 1);
        Check.due("tower", x.now(4), 105);
        Check.due("reach", x.now(5), 4);
        Check.due("LOST", x.now(6), 1);
        Check.due("BY", x.now(7), 2);
        Check.due("lamp", x.lamp(0), 4032);
        x.set(2, 3, 8);
        Check.due("undo again", x.undo(), 4);
        Check.due("the image did not change", x.of(2, 3), 7);
    }

    private static void whatIsNotKept() {
        TowerWarns x = new TowerWarns();
        x.sheet(0, 8, 3);
        x.image();
        x.feed(0x72656163, 4);
        x.write(0, 0, 7);
        x.sheet(1, 64, 2);
        x.now(99);
        x.undo();
        Check.due("the tape", x.count(1), 4);
        Check.due("a sheet", x.write(0, 0, 0), 7);
        Check.due("a new sheet", x.write(1, 1, 0), 0);
        Check.due("findings", x.status(-1), 1);
        Check.due("a number", x.feed(0x682037, 3), 7);
        Check.due("the text", x.sea(), 1);
        x.undo();
        Check.due("reach", x.now(5), 4);
    }

    private static void count() {
        TowerWarns x = new TowerWarns();
        x.ship(0, 0);
        x.ship(1, 0);
        x.set(0, 3, 9999);
        x.set(1, 3, 9999);
        x.feed(0, 3);
        x.lamp(0b1011);
        Check.due("ships", x.count(0), 2);
        Check.due("bytes", x.count(1), 3);
        Check.due("hours in which it burns", x.count(2), 3);
        Check.due("cost of all", x.count(3), 19998);
        for (int v : new int[] {Integer.MIN_VALUE, -1, 4, Integer.MAX_VALUE}) {
            Check.due("count(" + v + ")", x.count(v), Check.BEYOND);
        }
    }

    private static void status() {
        TowerWarns x = new TowerWarns();
        x.tower(20, 0);
        x.ship(0, 10);
        x.of(0, 0);
        for (int i = 0; i < 30; i++) {
            x.feed(0, 4);
        }
        x.feed(0, 1);
        x.feed(0, 1);
        x.ship(0, 0);
        x.as(0, 1);
        x.undo();
        x.comes(0);
        x.wrecks(0);
        x.set(0, 1, 19);
        x.hours(1);
        x.row(0);
        x.kind(0);
        x.lays(0);
        x.write(1, 0, 0);
        x.sheet(0, 8, -1);
        int[] due = {3, 2, 1, 2, 2, 2, 1};
        int all = 0;
        for (int which = 0; which < 7; which++) {
            Check.due("status(" + which + ")", x.status(which), due[which]);
            all += due[which];
        }
        Check.due("status(-1)", x.status(-1), all);
        int wrong = 0;
        for (int which : new int[] {Integer.MIN_VALUE, -2, 7, Integer.MAX_VALUE}) {
            Check.due("status(" + which + ")", x.status(which), Check.BEYOND);
            wrong++;
            Check.due("counted from then on", x.status(0), 3 + wrong);
        }
        Check.due("and among all", x.status(-1), all + 4);
        Check.due("a fault is no finding", x.sea(), -1);
        Check.due("all the same", x.status(-1), all + 4);
    }
}
