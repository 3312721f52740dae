import java.util.function.Supplier;
import java.util.function.ToLongFunction;

/**
 * Every refused call of every promise: the finding that is due, told by status(), and nothing changed but that.
 * A number is refused next to its limit on either side, and as far off as an int goes.
 */
public final class RefusedTest {
    private interface Call {
        long on(TowerWarns x, int v);
    }

    public static void main(String[] args) {
        theTower();
        ships();
        hours();
        whatIsBest();
        theTape();
        sheets();
        copies();
        images();
        theFirstFindingIsTold();
        Check.end("RefusedTest");
    }

    private static void beyond(String sentence, ToLongFunction<TowerWarns> call) {
        Scene.refused(sentence + ", as new", Scene::fresh, call, Check.BEYOND);
        Scene.refused(sentence + ", all full", Scene::full, call, Check.BEYOND);
        Scene.refused(sentence + ", some ended", Scene::ended, call, Check.BEYOND);
    }

    private static void outside(String sentence, int least, int most, Call call) {
        for (int v : new int[] {Integer.MIN_VALUE, least - 1, most + 1, Integer.MAX_VALUE}) {
            beyond(sentence + " " + v, x -> call.on(x, v));
        }
    }

    private static void noSuchShip(String sentence, Call call) {
        for (int v : new int[] {Integer.MIN_VALUE, -1, 6, Integer.MAX_VALUE}) {
            beyond(sentence + " of ship " + v, x -> call.on(x, v));
        }
        Scene.refused(sentence + " of ship 0 if there is none", Scene::fresh, x -> call.on(x, 0), Check.BEYOND);
        Scene.refused(sentence + " of ship 3 of three", Scene::ended, x -> call.on(x, 3), Check.BEYOND);
    }

    private static void inAll(String sentence, Call call, int v, int finding) {
        Scene.refused(sentence + ", as new", Scene::fresh, x -> call.on(x, v), finding);
        Scene.refused(sentence + ", all full", Scene::full, x -> call.on(x, v), finding);
        Scene.refused(sentence + ", some ended", Scene::ended, x -> call.on(x, v), finding);
    }

    private static void theTower() {
        outside("2: tower, COLUMN", 0, 19, (x, v) -> x.tower(v, 9));
        outside("2: tower, ROW", 0, 9, (x, v) -> x.tower(19, v));
        beyond("2: tower, both", x -> x.tower(20, 10));
        outside("3: lamp", 0, 4095, (x, v) -> x.lamp(v));
        outside("4: reach", 0, 9, (x, v) -> x.reach(v));
        outside("5: now", 0, 7, (x, v) -> x.now(v));
    }

    private static void ships() {
        outside("6: ship, KIND", 0, 5, (x, v) -> x.ship(v, 9));
        outside("6: ship, ROW", 0, 9, (x, v) -> x.ship(5, v));
        Scene.refused("6: a 7th", Scene::full, x -> x.ship(5, 9), Check.FULL);
        for (int what : new int[] {0, 1, 6, 7, 11}) {
            noSuchShip("7: of, what " + what, (x, v) -> x.of(v, what));
        }
        outside("7: of, what", 0, 11, (x, v) -> x.of(0, v));
        int[] most = {0, 19, 9, 9999, 99};
        for (int what = 1; what <= 4; what++) {
            int which = what;
            noSuchShip("8: set, what " + what, (x, v) -> x.set(v, which, 0));
            outside("8: set, what " + what, 0, most[what], (x, v) -> x.set(0, which, v));
        }
        outside("8: set, what", 1, 4, (x, v) -> x.set(0, v, 0));
        noSuchShip("9: turn", (x, v) -> x.turn(v, 0));
        outside("9: turn, KIND", 0, 5, (x, v) -> x.turn(0, v));
        noSuchShip("10: as", (x, v) -> x.as(v, 0));
        outside("10: as, KIND", 0, 5, (x, v) -> x.as(0, v));
        notOfThatKind();
    }

    /** Ships 0 to 5 of the full scene are of KINDS 0 to 5. */
    private static void notOfThatKind() {
        int[][] not = {{1, 2, 3, 4, 5}, {2, 3, 4, 5}, {1, 3, 4, 5}, {1, 2, 4, 5}, {2, 3, 5}, {1, 3, 4}};
        for (int i = 0; i < not.length; i++) {
            int ship = i;
            for (int kind : not[i]) {
                Scene.refused("10: one of kind " + i + " as one of " + kind, Scene::full, x -> x.as(ship, kind), Check.KIND);
            }
        }
    }

    private static void hours() {
        outside("11: hours", 1, 100, (x, v) -> x.hours(v));
        noSuchShip("12: on", (x, v) -> x.on(v, 0, 0));
        outside("12: on, HOURS", 0, 100, (x, v) -> x.on(0, v, 0));
        outside("12: on, what", 0, 3, (x, v) -> x.on(0, 0, v));
        outside("13: then, HOURS", 0, 100, (x, v) -> x.then(v, 1));
        outside("13: then, what", 0, 1, (x, v) -> x.then(100, v));
        noSuchShip("14: comes", (x, v) -> x.comes(v));
        Scene.refused("14: one that is LOST comes never", Scene::ended, x -> x.comes(0), Check.NONE);
        Scene.refused("14: one that will be LOST comes never", RefusedTest::doomed, x -> x.comes(0), Check.NONE);
        noSuchShip("15: wrecks", (x, v) -> x.wrecks(v));
        Scene.refused("15: one that is BY is never LOST", Scene::ended, x -> x.wrecks(1), Check.NONE);
        Scene.refused("15: one that will be BY is never LOST", Scene::ended, x -> x.wrecks(2), Check.NONE);
    }

    /** A ship that is LOST as any KIND, and a gig that is LOST from any ROW. */
    private static TowerWarns doomed() {
        TowerWarns x = new TowerWarns();
        x.tower(1, 0);
        x.ship(0, 0);
        x.ship(5, 0);
        return x;
    }

    private static TowerWarns doomedGig() {
        TowerWarns x = new TowerWarns();
        x.tower(19, 5);
        x.ship(5, 0);
        return x;
    }

    private static void whatIsBest() {
        noSuchShip("16: row", (x, v) -> x.row(v));
        Scene.refused("16: row of one LOST", Scene::ended, x -> x.row(0), Check.STATE);
        Scene.refused("16: row of one BY", Scene::ended, x -> x.row(1), Check.STATE);
        Scene.refused("16: BY from no ROW", RefusedTest::doomedGig, x -> x.row(0), Check.NONE);
        noSuchShip("17: kind", (x, v) -> x.kind(v));
        Scene.refused("17: kind of one LOST", Scene::ended, x -> x.kind(0), Check.STATE);
        Scene.refused("17: kind of one BY", Scene::ended, x -> x.kind(1), Check.STATE);
        Scene.refused("17: BY as no KIND", RefusedTest::doomed, x -> x.kind(0), Check.NONE);
        outside("18: shine", 1, 60, (x, v) -> x.shine(v));
        outside("19: hour", 1, 60, (x, v) -> x.hour(v));
        outside("20: site", 1, 40, (x, v) -> x.site(v));
        outside("21: nearest", 0, 100, (x, v) -> x.nearest(v));
        Scene.refused("21: nearest of none, now", Scene::fresh, x -> x.nearest(0), Check.NONE);
        Scene.refused("21: nearest of none, ahead", Scene::fresh, x -> x.nearest(100), Check.NONE);
    }

    private static void theTape() {
        outside("22: feed, n", 1, 4, (x, v) -> x.feed('a', v));
        for (int i = 1; i <= 4; i++) {
            int n = i;
            Scene.refused("22: 120 bytes and " + n, Scene::full, x -> x.feed(0x61616161, n), Check.FULL);
        }
        for (int i = 2; i <= 4; i++) {
            int n = i;
            Scene.refused("22: 119 bytes and " + n, Scene::ended, x -> x.feed(0x61616161, n), Check.FULL);
        }
    }

    private static void sheets() {
        outside("25: sheet, s", 0, 3, (x, v) -> x.sheet(v, 8, 1));
        for (int bits : new int[] {Integer.MIN_VALUE, -64, -16, -8, -1, 1, 7, 9, 15, 17, 32, 63, 65, 128, Integer.MAX_VALUE}) {
            beyond("25: a sheet of " + bits + " bits", x -> x.sheet(0, bits, 1));
        }
        for (int bits : new int[] {0, 8, 16, 64}) {
            inAll("25: -1 numbers of " + bits + " bits", (x, v) -> x.sheet(0, bits, v), -1, Check.SIZE);
            inAll("25: least numbers of " + bits + " bits", (x, v) -> x.sheet(0, bits, v), Integer.MIN_VALUE, Check.SIZE);
            inAll("25: 41 numbers of " + bits + " bits", (x, v) -> x.sheet(0, bits, v), 41, Check.BEYOND);
            inAll("25: most numbers of " + bits + " bits", (x, v) -> x.sheet(0, bits, v), Integer.MAX_VALUE, Check.BEYOND);
        }
        outside("26: write, s", 0, 3, (x, v) -> x.write(v, 0, 5));
        Scene.refused("26: write to one MISSING", Scene::full, x -> x.write(3, 0, 5), Check.MISSING);
        noSuchNumber(0, 40);
        noSuchNumber(1, 3);
        noSuchNumber(2, 5);
        Scene.refused("26: number 0 of none", Scene::ended, x -> x.write(3, 0, 5), Check.BEYOND);
        outside("28: lays, s", 0, 3, (x, v) -> x.lays(v));
        Scene.refused("28: lays of one MISSING", Scene::full, x -> x.lays(3), Check.MISSING);
        outside("29: book, s", 0, 3, (x, v) -> x.book(v, 0));
        Scene.refused("29: book in one MISSING", Scene::full, x -> x.book(3, 0), Check.MISSING);
        outside("30: read, s", 0, 3, (x, v) -> x.read(v, 0));
        Scene.refused("30: read from one MISSING", Scene::full, x -> x.read(3, 0), Check.MISSING);
        for (int ship : new int[] {Integer.MIN_VALUE, -1, 6, Integer.MAX_VALUE}) {
            Scene.refused("29: book, ship " + ship, Scene::full, x -> x.book(0, ship), Check.BEYOND);
            Scene.refused("30: read, ship " + ship, Scene::full, x -> x.read(0, ship), Check.BEYOND);
        }
        Scene.refused("29: book, ship 3 of three", Scene::ended, x -> x.book(0, 3), Check.BEYOND);
        Scene.refused("30: read, ship 3 of three", Scene::ended, x -> x.read(0, 3), Check.BEYOND);
        Scene.refused("29: book, no ship, no numbers", Scene::ended, x -> x.book(3, 3), Check.BEYOND);
        Scene.refused("30: read, no ship, no numbers", Scene::ended, x -> x.read(3, 3), Check.BEYOND);
    }

    /** Sheets 0, 1 and 2 of the full scene have 40, 3 and 5 numbers. */
    private static void noSuchNumber(int s, int size) {
        for (int i : new int[] {Integer.MIN_VALUE, -1, size, Integer.MAX_VALUE}) {
            Scene.refused("26: number " + i + " of " + size, Scene::full, x -> x.write(s, i, 5), Check.BEYOND);
        }
    }

    /** Sheets 0 and 1 have five and three numbers of 8 bits, sheet 2 has five of 64, sheet 3 is MISSING. */
    private static TowerWarns written() {
        TowerWarns x = new TowerWarns();
        x.sheet(0, 8, 5);
        x.sheet(1, 8, 3);
        x.sheet(2, 64, 5);
        for (int i = 0; i < 5; i++) {
            x.write(0, i, i + 1);
            x.write(1, i, i + 11);
            x.write(2, i, i + 21);
        }
        return x;
    }

    private static void notCopied(String sentence, int finding, int s, int from, int t, int to, int n) {
        Scene.refused("27: " + sentence, RefusedTest::written, x -> x.copy(s, from, t, to, n), finding);
    }

    private static void copies() {
        outside("27: copy, s", 0, 3, (x, v) -> x.copy(v, 0, 0, 0, 0));
        outside("27: copy, t", 0, 3, (x, v) -> x.copy(0, 0, v, 0, 0));
        notCopied("from one MISSING", Check.MISSING, 3, 0, 0, 0, 0);
        notCopied("to one MISSING", Check.MISSING, 0, 0, 3, 0, 0);
        notCopied("one MISSING to itself", Check.MISSING, 3, 0, 3, 0, 0);
        notCopied("8 bits to 64", Check.KIND, 0, 0, 2, 0, 1);
        notCopied("64 bits to 8", Check.KIND, 2, 0, 0, 0, 1);
        notCopied("none of other bits", Check.KIND, 2, 0, 0, 0, 0);
        notCopied("from -1", Check.BEYOND, 0, -1, 1, 0, 1);
        notCopied("to -1", Check.BEYOND, 0, 0, 1, -1, 1);
        notCopied("n -1", Check.BEYOND, 0, 0, 1, 0, -1);
        notCopied("n -1 where there would be room", Check.BEYOND, 0, 2, 1, 2, -1);
        notCopied("none from -1", Check.BEYOND, 0, -1, 1, 0, 0);
        notCopied("none to -1", Check.BEYOND, 0, 0, 1, -1, 0);
        notCopied("the source has one less", Check.BEYOND, 1, 1, 0, 0, 3);
        notCopied("the target has one less", Check.BEYOND, 0, 0, 1, 1, 3);
        notCopied("the source has none there", Check.BEYOND, 1, 3, 0, 0, 1);
        notCopied("the target has none there", Check.BEYOND, 0, 0, 1, 3, 1);
        notCopied("one more than both have", Check.BEYOND, 0, 0, 0, 0, 6);
        for (int far : new int[] {Integer.MIN_VALUE, Integer.MAX_VALUE}) {
            notCopied("from " + far, Check.BEYOND, 0, far, 1, 0, 1);
            notCopied("to " + far, Check.BEYOND, 0, 0, 1, far, 1);
            notCopied("n " + far, Check.BEYOND, 0, 1, 1, 1, far);
            notCopied("all " + far, Check.BEYOND, 0, far, 1, far, far);
        }
        notCopied("from and n so far that they wrap around", Check.BEYOND, 0, Integer.MAX_VALUE, 0, 0, Integer.MAX_VALUE);
        notCopied("to and n so far that they wrap around", Check.BEYOND, 0, 0, 0, Integer.MAX_VALUE, 2);
    }

    private static void images() {
        Scene.refused("32: undo, nothing kept ever", Scene::fresh, x -> x.undo(), Check.NONE);
        Supplier<TowerWarns> torn = () -> {
            TowerWarns x = Scene.full();
            x.tear();
            return x;
        };
        Scene.refused("32: undo, what was kept is torn", torn, x -> x.undo(), Check.NONE);
        outside("34: count", 0, 3, (x, v) -> x.count(v));
        outside("35: status", -1, 6, (x, v) -> x.status(v));
    }

    /** An act that could tell two findings tells the one that the document names first. */
    private static void theFirstFindingIsTold() {
        Scene.refused("6: no KIND before FULL", Scene::full, x -> x.ship(6, 0), Check.BEYOND);
        Scene.refused("6: no ROW before FULL", Scene::full, x -> x.ship(0, 10), Check.BEYOND);
        Scene.refused("10: no ship before KIND", Scene::full, x -> x.as(6, 1), Check.BEYOND);
        Scene.refused("10: no KIND before not of it", Scene::full, x -> x.as(0, 6), Check.BEYOND);
        Scene.refused("16: STATE before NONE, LOST", Scene::ended, x -> x.row(0), Check.STATE);
        Scene.refused("17: STATE before NONE, LOST", Scene::ended, x -> x.kind(0), Check.STATE);
        Scene.refused("21: no such HOURS before NONE, below", Scene::fresh, x -> x.nearest(-1), Check.BEYOND);
        Scene.refused("21: no such HOURS before NONE, above", Scene::fresh, x -> x.nearest(101), Check.BEYOND);
        Scene.refused("22: no such n before FULL, above", Scene::full, x -> x.feed(0, 5), Check.BEYOND);
        Scene.refused("22: no such n before FULL, below", Scene::full, x -> x.feed(0, 0), Check.BEYOND);
        Scene.refused("25: no sheet before SIZE", Scene::full, x -> x.sheet(4, 8, -1), Check.BEYOND);
        Scene.refused("25: other bits before SIZE", Scene::full, x -> x.sheet(0, 32, -1), Check.BEYOND);
        Scene.refused("26: no sheet before no number", Scene::full, x -> x.write(4, 40, 0), Check.BEYOND);
        Scene.refused("26: MISSING before no number, above", Scene::full, x -> x.write(3, 40, 0), Check.MISSING);
        Scene.refused("26: MISSING before no number, below", Scene::full, x -> x.write(3, -1, 0), Check.MISSING);
        notCopied("no target before MISSING source", Check.BEYOND, 3, 0, 4, 0, 1);
        notCopied("no source before MISSING target", Check.BEYOND, 4, 0, 3, 0, 1);
        notCopied("MISSING before KIND and before no such numbers", Check.MISSING, 3, -1, 2, -1, -1);
        notCopied("MISSING target before no such numbers", Check.MISSING, 0, 6, 3, 6, 6);
        notCopied("KIND before no such numbers, below", Check.KIND, 0, -1, 2, -1, -1);
        notCopied("KIND before no such numbers, above", Check.KIND, 2, 6, 0, 6, 6);
        Scene.refused("29: no sheet before no ship", Scene::full, x -> x.book(4, 6), Check.BEYOND);
        Scene.refused("29: MISSING before no ship", Scene::full, x -> x.book(3, 6), Check.MISSING);
        Scene.refused("30: no sheet before no ship", Scene::full, x -> x.read(4, 6), Check.BEYOND);
        Scene.refused("30: MISSING before no ship", Scene::full, x -> x.read(3, 6), Check.MISSING);
    }
}
