/** Promises 1 to 5: a new object, the tower, the lamp, its reach, and what is now. */
public final class TowerTest {
    private static final int[] OUTSIDE = {Integer.MIN_VALUE, -1000000001, -1, Integer.MAX_VALUE};

    public static void main(String[] args) {
        newObject();
        tower();
        lamp();
        reach();
        now();
        Check.end("TowerTest");
    }

    private static void newObject() {
        TowerWarns x = new TowerWarns();
        int[] due = {0, 0, 0, 0, 105, 4, 0, 0};
        for (int what = 0; what < due.length; what++) {
            Check.due("new: now(" + what + ")", x.now(what), due[what]);
        }
        Check.due("new: count(0)", x.count(0), 0);
        Check.due("new: count(1)", x.count(1), 0);
        Check.due("new: count(2)", x.count(2), 6);
        Check.due("new: count(3)", x.count(3), 0);
        Check.due("new: status(-1)", x.status(-1), 0);
        Check.due("new: undo()", x.undo(), Check.NONE);
        Check.due("new: tear()", x.tear(), 0);
        Check.due("new: wipe()", x.wipe(), 0);
        for (int s = 0; s < 4; s++) {
            Check.due("new: lays(" + s + ")", x.lays(s), Check.MISSING);
        }
        Check.due("new: of(0, 0)", x.of(0, 0), Check.BEYOND);
    }

    private static void tower() {
        TowerWarns x = new TowerWarns();
        Check.due("tower first", x.tower(0, 0), 105);
        Check.due("tower second", x.tower(19, 9), 0);
        Check.due("tower third", x.tower(7, 3), 199);
        Check.due("tower beyond columns", x.tower(20, 0), Check.BEYOND);
        Check.due("tower beyond rows", x.tower(0, 10), Check.BEYOND);
        for (int v : OUTSIDE) {
            Check.due("tower(" + v + ", 0)", x.tower(v, 0), Check.BEYOND);
            Check.due("tower(0, " + v + ")", x.tower(0, v), Check.BEYOND);
        }
        Check.due("the tower stays behind findings", x.now(4), 73);
        Check.due("all of them are told", x.status(0), 10);
    }

    private static void lamp() {
        TowerWarns x = new TowerWarns();
        Check.due("lamp first", x.lamp(0), 4032);
        Check.due("lamp second", x.lamp(4095), 0);
        Check.due("lamp third", x.lamp(5), 4095);
        Check.due("lamp(4096)", x.lamp(4096), Check.BEYOND);
        for (int v : OUTSIDE) {
            Check.due("lamp(" + v + ")", x.lamp(v), Check.BEYOND);
        }
        Check.due("the lamp stays behind findings", x.lamp(4032), 5);
    }

    private static void reach() {
        TowerWarns x = new TowerWarns();
        Check.due("reach first", x.reach(0), 4);
        Check.due("reach second", x.reach(9), 0);
        Check.due("reach third", x.reach(6), 9);
        Check.due("reach(10)", x.reach(10), Check.BEYOND);
        for (int v : OUTSIDE) {
            Check.due("reach(" + v + ")", x.reach(v), Check.BEYOND);
        }
        Check.due("reach stays behind findings", x.now(5), 6);
    }

    private static void now() {
        TowerWarns x = new TowerWarns();
        x.lamp(0b100000000101);
        for (int hour = 0; hour < 30; hour++) {
            int ofDay = hour % 12;
            Check.due("now(0) at " + hour, x.now(0), hour);
            Check.due("now(1) at " + hour, x.now(1), ofDay);
            Check.due("now(2) at " + hour, x.now(2), ofDay >= 6 ? 1 : 0);
            Check.due("now(3) at " + hour, x.now(3), ofDay == 0 || ofDay == 2 || ofDay == 11 ? 1 : 0);
            x.hours(1);
        }
        Check.due("now(8)", x.now(8), Check.BEYOND);
        for (int v : OUTSIDE) {
            Check.due("now(" + v + ")", x.now(v), Check.BEYOND);
        }
        TowerWarns y = new TowerWarns();
        Check.sea(y, "drifter 5 at 9;mail 0 at 17;ship 5 at 9;ship 0 at 19;drifter 5 at 9");
        y.lamp(0);
        y.hours(1);
        Check.due("sets of LOST", y.now(6), 0b10001);
        Check.due("sets of BY", y.now(7), 0b01010);
    }
}
