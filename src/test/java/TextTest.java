/** Promises 22 to 24: the tape, and a sea told in a text. */
public final class TextTest {
    public static void main(String[] args) {
        feed();
        wipe();
        itemsCome();
        shipsCome();
        blanksAndNumbers();
        faults();
        theSeventh();
        nothingChangesWithAFault();
        Check.end("TextTest");
    }

    private static void feed() {
        TowerWarns x = new TowerWarns();
        for (int n : new int[] {Integer.MIN_VALUE, -1, 0, 5, Integer.MAX_VALUE}) {
            Check.due("feed(0, " + n + ")", x.feed(0, n), Check.BEYOND);
        }
        Check.due("four", x.feed(0x72656163, 4), 4);
        Check.due("one, the lowest", x.feed(0x7a7a7a68, 1), 5);
        Check.due("two", x.feed(0x7a7a2037, 2), 7);
        Check.due("three", x.feed(0x7a203b20, 3), 10);
        Check.due("four more", x.feed(0x6461726b, 4), 14);
        Check.due("and one", x.feed(0x36, 1), 15);
        Check.due("count(1)", x.count(1), 15);
        Check.due("reach 7 ; dark6", x.sea(), 2);
        Check.due("reach", x.now(5), 7);
        Check.due("lamp", x.lamp(0), 4032 - 64);
        Check.due("the tape is empty then", x.count(1), 0);
        for (int i = 1; i <= 29; i++) {
            Check.due("feed", x.feed(-1, 4), 4 * i);
        }
        Check.due("119", x.feed(0, 3), 119);
        Check.due("two too many", x.feed(0, 2), Check.FULL);
        Check.due("n before FULL", x.feed(0, 5), Check.BEYOND);
        Check.due("119 still", x.count(1), 119);
        Check.due("120", x.feed(0, 1), 120);
        Check.due("no more", x.feed(0, 1), Check.FULL);
        Check.due("FULL twice", x.status(1), 2);
        Check.due("wipe", x.wipe(), 120);
    }

    private static void wipe() {
        TowerWarns x = new TowerWarns();
        Check.due("empty", x.wipe(), 0);
        Check.feed(x, "reach 7");
        Check.due("seven", x.wipe(), 7);
        Check.due("empty again", x.wipe(), 0);
        Check.due("nothing came of it", x.now(5), 4);
        Check.due("an empty text ends too early", x.sea(), -1);
    }

    private static void itemsCome() {
        TowerWarns x = new TowerWarns();
        Check.due("a tower", Check.sea(x, "tower 19 0"), 1);
        Check.due("its place", x.now(4), 190);
        Check.due("burns", Check.sea(x, "burns 0;burns 11;burns 5"), 3);
        Check.due("the lamp", x.lamp(4095), 4032 + 1 + 32);
        Check.due("dark", Check.sea(x, "dark 0;dark 11;dark 0;dark 7;burns 7"), 5);
        Check.due("the lamp", x.lamp(4032), 4095 - 1 - 2048);
        Check.due("reach", Check.sea(x, "reach 0;reach 9"), 2);
        Check.due("the last one stands", x.now(5), 9);
        String longest = "reach1;reach1;reach1;reach1;reach1;reach1;reach1;reach1;reach1;reach1;"
            + "reach1;reach1;reach1;reach1;reach1;reach1;dark3 ";
        Check.due("119 bytes and more", longest.length() >= 118 ? 1 : 0, 1);
        Check.due("a long text", Check.sea(x, longest), 17);
        Check.due("no ship came", x.count(0), 0);
        Check.due("no finding came", x.status(-1), 0);
    }

    private static void shipsCome() {
        TowerWarns x = new TowerWarns();
        x.ship(3, 3);
        x.set(0, 3, 17);
        x.hours(5);
        Check.due("five", Check.sea(x, "ship 0;steamer 9 at 19;boat 1 at 0;mail 4 at 10;gig 5"), 5);
        int[][] due = {{3, 3, 3}, {0, 0, 0}, {1, 19, 9}, {2, 0, 1}, {4, 10, 4}, {5, 0, 5}};
        Check.due("six now", x.count(0), 6);
        for (int i = 0; i < 6; i++) {
            Check.due("kind", x.of(i, 0), due[i][0]);
            Check.due("column", x.of(i, 1), due[i][1]);
            Check.due("row", x.of(i, 2), due[i][2]);
            Check.due("cost", x.of(i, 3), i == 0 ? 17 : 0);
            Check.due("near", x.of(i, 4), i == 0 ? 7 : 99);
        }
        Check.due("the hour stays", x.now(0), 5);
        TowerWarns y = new TowerWarns();
        Check.due("a drifter", Check.sea(y, "drifter 7 at 19"), 1);
        Check.due("kind", y.of(0, 0), 3);
        y.hours(2);
        y.image();
        Check.sea(y, "ship 2");
        y.undo();
        Check.due("a ship that comes where another one was is new", Check.sea(y, "ship 3"), 1);
        Check.due("its row", y.of(1, 2), 3);
        Check.due("not BY", y.of(1, 6), 0);
    }

    private static void blanksAndNumbers() {
        TowerWarns x = new TowerWarns();
        Check.due("no blanks", Check.sea(x, "ship5at3;tower1 2;reach3"), 3);
        Check.due("row", x.of(0, 2), 5);
        Check.due("column", x.of(0, 1), 3);
        Check.due("tower", x.now(4), 12);
        Check.due("many blanks", Check.sea(x, "   reach    4   ;   reach   6   "), 2);
        Check.due("reach", x.now(5), 6);
        Check.due("noughts ahead", Check.sea(x, "reach 0000000000000008;tower 019 00"), 2);
        Check.due("reach", x.now(5), 8);
        Check.due("tower", x.now(4), 190);
    }

    private static void fault(String text, int place) {
        TowerWarns x = new TowerWarns();
        Check.due("fault in '" + text + "'", Check.sea(x, text), -1 - place);
        Check.due("the tape is empty behind '" + text + "'", x.count(1), 0);
        Check.due("no finding for '" + text + "'", x.status(-1), 0);
    }

    private static void faults() {
        fault("", 0);
        fault("   ", 3);
        fault("ship", 4);
        fault("ship  ", 6);
        fault("ship 3;", 7);
        fault("ship 3 ; ", 9);
        fault("ship 3 at", 9);
        fault("ship 10", 5);
        fault("ship 1000", 5);
        fault("ship 4294967299", 5);
        fault("ship 18446744073709551619", 5);
        fault("ship 3 at 20", 10);
        fault("ship 3 att 2", 7);
        fault("ship 3 at at", 10);
        fault("ship 3 4", 7);
        fault("ship 3 ship 4", 7);
        fault("ship 3 at 4 5", 12);
        fault("ship 3 at 4 at 5", 12);
        fault("shipat 3", 0);
        fault("ships 3", 0);
        fault("shipa 3", 0);
        fault("shipz 3", 0);
        fault("ship`3", 4);
        fault("ship{3", 4);
        fault("ship/3", 4);
        fault("ship 3<", 6);
        fault("shi 3", 0);
        fault("at 3", 0);
        fault("3", 0);
        fault(" ;", 1);
        fault(";ship 3", 0);
        fault("ship 3;;ship 4", 7);
        fault("ship ; 3", 5);
        fault("ship at 3", 5);
        fault("Ship 3", 0);
        fault("shiP 3", 0);
        fault("ship -3", 5);
        fault("ship\t3", 4);
        fault("ship 3\n", 6);
        fault("ship 3.", 6);
        fault("ship 3:ship 4", 6);
        fault("tower", 5);
        fault("tower 3", 7);
        fault("tower 20 3", 6);
        fault("tower 19 10", 9);
        fault("tower 19;3", 8);
        fault("tower 1 2 3", 10);
        fault("tower 1 2 at 3", 10);
        fault("burns", 5);
        fault("burns 12", 6);
        fault("dark 12", 5);
        fault("dark", 4);
        fault("burns 1 2", 8);
        fault("reach 10", 6);
        fault("reach", 5);
        fault("reach reach", 6);
        fault("reach 3 A", 8);
        fault("reach 10 A", 6);
        fault("reach 3;reach 3;sea 4", 16);
        fault("\u0000", 0);
        fault("\u00ff", 0);
        fault("reach 3 \u00e1", 8);
        fault("ship \u0133", 5);
    }

    private static void theSeventh() {
        TowerWarns x = new TowerWarns();
        Check.due("seven in one text", Check.sea(x, "ship 1;ship 1;ship 1;ship 1;ship 1;ship 1;gig 1"), -1 - 42);
        Check.due("none came", x.count(0), 0);
        Check.due("six in one text", Check.sea(x, "ship 1;ship 1;ship 1;ship 1;ship 1;ship 1;reach 2"), 7);
        Check.due("six came", x.count(0), 6);
        Check.due("a 7th", Check.sea(x, "reach 1; gig 1"), -1 - 9);
        Check.due("a 7th that has no row", Check.sea(x, "mail"), -1);
        Check.due("other items still come", Check.sea(x, "tower 3 4"), 1);
        Check.due("no finding", x.status(-1), 0);
    }

    private static void nothingChangesWithAFault() {
        TowerWarns x = new TowerWarns();
        x.ship(1, 4);
        Check.due("a fault at the end", Check.sea(x, "tower 1 1;reach 7;burns 0;dark 6;ship 3;boat"), -1 - 44);
        Check.due("tower", x.now(4), 105);
        Check.due("reach", x.now(5), 4);
        Check.due("lamp", x.lamp(4032), 4032);
        Check.due("ships", x.count(0), 1);
        Check.due("half a tower", Check.sea(x, "tower 1"), -1 - 7);
        Check.due("tower", x.now(4), 105);
    }
}
