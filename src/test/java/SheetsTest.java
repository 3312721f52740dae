/** Promises 25 to 30: sheets. */
public final class SheetsTest {
    private static final int[] NOT_SHEETS = {Integer.MIN_VALUE, -1, 4, Integer.MAX_VALUE};

    public static void main(String[] args) {
        sheet();
        write();
        copy();
        copyFindings();
        lays();
        book();
        read();
        readMore();
        Check.end("SheetsTest");
    }

    private static void sheet() {
        TowerWarns x = new TowerWarns();
        for (int s : NOT_SHEETS) {
            Check.due("sheet(" + s + ", 8, 1)", x.sheet(s, 8, 1), Check.BEYOND);
            Check.due("sheet(" + s + ", 8, -1)", x.sheet(s, 8, -1), Check.BEYOND);
        }
        for (int bits : new int[] {Integer.MIN_VALUE, -8, -1, 1, 7, 9, 15, 32, 63, 65, Integer.MAX_VALUE}) {
            Check.due("sheet(0, " + bits + ", 1)", x.sheet(0, bits, 1), Check.BEYOND);
            Check.due("sheet(0, " + bits + ", -1)", x.sheet(0, bits, -1), Check.BEYOND);
        }
        for (int bits : new int[] {0, 8, 16, 64}) {
            Check.due("SIZE", x.sheet(0, bits, -1), Check.SIZE);
            Check.due("SIZE far below", x.sheet(0, bits, Integer.MIN_VALUE), Check.SIZE);
            Check.due("above 40", x.sheet(0, bits, 41), Check.BEYOND);
            Check.due("far above 40", x.sheet(0, bits, Integer.MAX_VALUE), Check.BEYOND);
            for (int s = 0; s < 4; s++) {
                Check.due("none", x.sheet(s, bits, 0), 0);
                Check.due("forty", x.sheet(s, bits, 40), bits == 0 ? 0 : 40);
                Check.due("MISSING or not", x.lays(s), bits == 0 ? Check.MISSING : 0);
            }
        }
        Check.due("SIZE told", x.status(6), 8);
        x.sheet(1, 8, 3);
        x.write(1, 2, 9);
        Check.due("a finding leaves it", x.sheet(1, 16, 41), Check.BEYOND);
        Check.due("as it was", x.write(1, 2, 9), 9);
        x.sheet(1, 8, 3);
        Check.due("all 0 anew", x.write(1, 2, 5), 0);
        Check.due("MISSING again", x.sheet(1, 0, 7), 0);
        Check.due("it is", x.write(1, 0, 5), Check.MISSING);
        x.sheet(1, 8, 40);
        Check.due("nothing is left of before", x.write(1, 2, 0), 0);
    }

    private static void write() {
        TowerWarns x = new TowerWarns();
        x.sheet(0, 8, 4);
        x.sheet(1, 16, 4);
        x.sheet(2, 64, 4);
        long[] given = {127, 128, 255, 256, -129, 32767, 32768, 65535, 65536, Long.MAX_VALUE, Long.MIN_VALUE, -1000000001};
        for (long v : given) {
            x.write(0, 3, v);
            x.write(1, 3, v);
            x.write(2, 3, v);
            Check.due("8 bits of " + v, x.write(0, 3, 0), (byte) v);
            Check.due("16 bits of " + v, x.write(1, 3, 0), (short) v);
            Check.due("64 bits of " + v, x.write(2, 3, 0), v);
        }
        Check.due("a number like a finding is none", x.status(-1), 0);
        for (int s : NOT_SHEETS) {
            Check.due("write(" + s + ", 9, 0)", x.write(s, 9, 0), Check.BEYOND);
        }
        for (int i : new int[] {Integer.MIN_VALUE, -1, 4, Integer.MAX_VALUE}) {
            Check.due("write(0, " + i + ", 0)", x.write(0, i, 0), Check.BEYOND);
            Check.due("write(3, " + i + ", 0)", x.write(3, i, 0), Check.MISSING);
        }
        x.sheet(3, 8, 0);
        Check.due("no number at all", x.write(3, 0, 1), Check.BEYOND);
    }

    private static void fill(TowerWarns x, int s, int n) {
        for (int i = 0; i < n; i++) {
            x.write(s, i, 10 * s + i);
        }
    }

    private static void has(String what, TowerWarns x, int s, int... due) {
        for (int i = 0; i < due.length; i++) {
            Check.due(what + ": number " + i, x.write(s, i, due[i]), due[i]);
        }
    }

    private static void copy() {
        TowerWarns x = new TowerWarns();
        for (int s = 0; s < 4; s++) {
            x.sheet(s, 16, 5);
            fill(x, s, 5);
        }
        Check.due("two", x.copy(0, 3, 1, 0, 2), 2);
        has("two", x, 1, 3, 4, 12, 13, 14);
        has("the source stays", x, 0, 0, 1, 2, 3, 4);
        Check.due("forward over itself", x.copy(2, 0, 2, 1, 4), 4);
        has("as they all were", x, 2, 20, 20, 21, 22, 23);
        Check.due("back over itself", x.copy(3, 1, 3, 0, 4), 4);
        has("as they all were", x, 3, 31, 32, 33, 34, 34);
        Check.due("all", x.copy(0, 0, 3, 0, 5), 5);
        has("all", x, 3, 0, 1, 2, 3, 4);
        Check.due("none at the end", x.copy(0, 5, 3, 5, 0), 0);
        Check.due("none", x.copy(0, 0, 3, 2, 0), 0);
        has("none came", x, 3, 0, 1, 2, 3, 4);
    }

    private static void copyFindings() {
        TowerWarns x = new TowerWarns();
        x.sheet(0, 8, 5);
        x.sheet(1, 8, 3);
        x.sheet(2, 64, 5);
        for (int s : NOT_SHEETS) {
            Check.due("from no sheet", x.copy(s, 0, 3, 0, 1), Check.BEYOND);
            Check.due("to no sheet", x.copy(3, 0, s, 0, 1), Check.BEYOND);
        }
        Check.due("from one MISSING", x.copy(3, -1, 0, 0, 1), Check.MISSING);
        Check.due("to one MISSING", x.copy(0, -1, 3, 0, 1), Check.MISSING);
        Check.due("other bits", x.copy(0, -1, 2, 0, 1), Check.KIND);
        Check.due("other bits back", x.copy(2, 0, 0, 0, 0), Check.KIND);
        int[][] wrong = {{-1, 0, 1}, {0, -1, 1}, {0, 0, -1}, {5, 0, 1}, {0, 3, 1}, {6, 0, 0}, {0, 4, 0}, {0, 0, 4},
            {3, 0, 3}, {0, 1, 3}, {Integer.MAX_VALUE, 0, 1}, {0, Integer.MAX_VALUE, 1}, {0, 0, Integer.MAX_VALUE},
            {Integer.MAX_VALUE, Integer.MAX_VALUE, Integer.MAX_VALUE}, {Integer.MIN_VALUE, 0, Integer.MIN_VALUE},
            {1, 1, Integer.MAX_VALUE}, {1, 1, Integer.MIN_VALUE}};
        for (int[] w : wrong) {
            Check.due("copy(0, " + w[0] + ", 1, " + w[1] + ", " + w[2] + ")", x.copy(0, w[0], 1, w[1], w[2]), Check.BEYOND);
        }
        Check.due("just so many", x.copy(0, 2, 1, 0, 3), 3);
    }

    private static void lays() {
        TowerWarns x = new TowerWarns();
        x.sheet(0, 64, 5);
        Check.due("for no ships", x.lays(0), 0);
        for (int i = 0; i < 3; i++) {
            x.ship(0, 9);
        }
        long[] numbers = {4, 10, 0, 1, 2};
        for (int i = 0; i < numbers.length; i++) {
            x.write(0, i, numbers[i]);
        }
        Check.due("two came", x.lays(0), 2);
        Check.due("row of 0", x.of(0, 2), 4);
        Check.due("row of 1 stays", x.of(1, 2), 9);
        Check.due("row of 2", x.of(2, 2), 0);
        x.write(0, 0, -1);
        x.write(0, 1, (1L << 32) + 3);
        x.write(0, 2, 9);
        Check.due("one came", x.lays(0), 1);
        Check.due("row of 0 stays", x.of(0, 2), 4);
        Check.due("row of 1 stays still", x.of(1, 2), 9);
        Check.due("row of 2 now", x.of(2, 2), 9);
        x.sheet(1, 8, 1);
        Check.due("a short sheet", x.lays(1), 1);
        Check.due("only the first", x.of(0, 2) + x.of(1, 2), 9);
        x.sheet(2, 8, 0);
        Check.due("an empty sheet", x.lays(2), 0);
        Check.due("MISSING", x.lays(3), Check.MISSING);
        for (int s : NOT_SHEETS) {
            Check.due("lays(" + s + ")", x.lays(s), Check.BEYOND);
        }
    }

    private static void book() {
        TowerWarns x = new TowerWarns();
        Check.sea(x, "ship 5 at 6;gig 2");
        x.sheet(0, 8, 7);
        Check.due("seven", x.book(0, 0), 7);
        has("a ship", x, 0, 5, 5, 4, 3, 2, 1, 1);
        x.sheet(1, 64, 4);
        Check.due("four", x.book(1, 1), 4);
        has("a gig", x, 1, 2, 3, 4, 5);
        Check.due("nothing changes", x.now(0) + x.of(1, 1), 0);
        x.sheet(2, 16, 0);
        Check.due("none", x.book(2, 0), 0);
        Check.due("MISSING before ship", x.book(3, 9), Check.MISSING);
        for (int v : NOT_SHEETS) {
            Check.due("no sheet before ship", x.book(v, 9), Check.BEYOND);
            Check.due("no ship", x.book(0, v), Check.BEYOND);
        }
        Check.due("no ship 2", x.book(0, 2), Check.BEYOND);
        has("a finding leaves it", x, 0, 5, 5, 4, 3, 2, 1, 1);
    }

    private static void read() {
        TowerWarns x = new TowerWarns();
        Check.sea(x, "ship 5 at 7");
        x.sheet(0, 16, 0);
        Check.due("an empty sheet", x.read(0, 0), 60);
        x.sheet(0, 16, 1);
        Check.due("another row", x.read(0, 0), 0);
        x.write(0, 0, 5);
        Check.due("where it is now", x.read(0, 0), 60);
        x.sheet(0, 16, 2);
        x.write(0, 0, 5);
        x.write(0, 1, 4);
        Check.due("one row off: ship, steamer, mail", x.read(0, 0), 30);
        x.write(0, 1, 3);
        Check.due("two rows off: boat", x.read(0, 0), 10);
        x.write(0, 1, 5);
        Check.due("none: drifter, gig", x.read(0, 0), 20);
        x.write(0, 1, 6);
        Check.due("nobody", x.read(0, 0), 0);
        Check.due("nothing changes", x.of(0, 0) + x.now(0) + x.now(5), 4);
        Check.due("MISSING before ship", x.read(3, 9), Check.MISSING);
        for (int v : NOT_SHEETS) {
            Check.due("no sheet before ship", x.read(v, 9), Check.BEYOND);
            Check.due("no ship", x.read(0, v), Check.BEYOND);
        }
        Check.due("no ship 1", x.read(0, 1), Check.BEYOND);
    }

    private static void readMore() {
        TowerWarns x = new TowerWarns();
        x.hours(6);
        Check.sea(x, "ship 5 at 6");
        x.sheet(0, 64, 2);
        x.write(0, 0, 5);
        x.write(0, 1, 4);
        Check.due("ship and steamer with REACH 4 to 9; mail at 4 keeps off by 0", x.read(0, 0), 12);
        x.write(0, 1, 5);
        Check.due("all the others", x.read(0, 0), 48);
        x.write(0, 1, 5 + (1L << 32));
        Check.due("all 64 bits count", x.read(0, 0), 0);
        TowerWarns y = new TowerWarns();
        Check.sea(y, "ship 0 at 19");
        y.hours(1);
        y.sheet(0, 8, 40);
        Check.due("one that is BY stays in its row", y.read(0, 0), 60);
    }
}
