/** What is empty and what is full: no ships and six, sheets of none and of 40, no image and one, lamps of no hour and of all. */
public final class EmptyAndFullTest {
    public static void main(String[] args) {
        aNewObject();
        noShips();
        sixShips();
        allCost();
        allButOne();
        sheetsOfNone();
        sheetsOfForty();
        sheetsThatAreMissing();
        readerOfAll();
        noImage();
        anImageOfNothing();
        anImageOfAll();
        nothingIsLeftOfOneBefore();
        whatAnImageLeaves();
        objectsAreApart();
        Check.end("EmptyAndFullTest");
    }

    private static void aNewObject() {
        TowerWarns x = new TowerWarns();
        int[] now = {0, 0, 0, 0, 105, 4, 0, 0};
        for (int what = 0; what < now.length; what++) {
            Check.due("1: now(" + what + ")", x.now(what), now[what]);
        }
        int[] count = {0, 0, 6, 0};
        for (int what = 0; what < count.length; what++) {
            Check.due("1: count(" + what + ")", x.count(what), count[what]);
        }
        for (int which = -1; which <= 6; which++) {
            Check.due("1: status(" + which + ")", x.status(which), 0);
        }
        Check.due("1: the lamp", x.lamp(4032), 4032);
        Check.due("1: an empty tape", x.wipe(), 0);
        Check.due("1: no image", x.tear(), 0);
        for (int s = 0; s < 4; s++) {
            Check.due("1: sheet " + s + " is MISSING", x.write(s, 0, 0), Check.MISSING);
        }
    }

    private static void noShips() {
        TowerWarns x = new TowerWarns();
        Check.due("11: hours over an empty sea", x.hours(100), 0);
        Check.due("11: they go all the same", x.now(0), 100);
        Check.due("13: none LOST", x.then(100, 0), 0);
        Check.due("13: none BY", x.then(100, 1), 0);
        Check.due("18: shine for none", x.shine(60), 0);
        Check.due("19: hour for none", x.hour(60), 0);
        Check.due("20: site for none", x.site(40), 0);
        Check.due("34: no COST", x.count(3), 0);
        Check.due("no finding yet", x.status(-1), 0);
        Check.due("7: of", x.of(0, 0), Check.BEYOND);
        Check.due("8: set", x.set(0, 1, 0), Check.BEYOND);
        Check.due("9: turn", x.turn(0, 0), Check.BEYOND);
        Check.due("10: as", x.as(0, 0), Check.BEYOND);
        Check.due("12: on", x.on(0, 0, 0), Check.BEYOND);
        Check.due("14: comes", x.comes(0), Check.BEYOND);
        Check.due("15: wrecks", x.wrecks(0), Check.BEYOND);
        Check.due("16: row", x.row(0), Check.BEYOND);
        Check.due("17: kind", x.kind(0), Check.BEYOND);
        Check.due("21: nearest", x.nearest(0), Check.NONE);
        x.sheet(0, 8, 40);
        Check.due("28: lays for none", x.lays(0), 0);
        Check.due("29: book of none", x.book(0, 0), Check.BEYOND);
        Check.due("30: read of none", x.read(0, 0), Check.BEYOND);
        Check.due("6: the first comes as 0", x.ship(0, 0), 0);
        Check.due("21: nearest of one", x.nearest(0), 0);
    }

    private static TowerWarns six(int kind, int column, int row) {
        TowerWarns x = new TowerWarns();
        for (int i = 0; i < 6; i++) {
            x.ship(kind, row);
            x.set(i, 1, column);
        }
        return x;
    }

    private static void sixShips() {
        TowerWarns by = six(0, 19, 0);
        Check.due("13: all six will be BY", by.then(1, 1), 63);
        Check.due("11: all six are BY", by.hours(1), 63);
        Check.due("5: all six", by.now(7), 63);
        Check.due("5: none is LOST", by.now(6), 0);
        TowerWarns lost = six(3, 9, 5);
        Check.due("13: all six will be LOST", lost.then(1, 0), 63);
        Check.due("11: none is BY", lost.hours(1), 0);
        Check.due("5: all six are LOST", lost.now(6), 63);
        Check.due("18: all LOST with any REACH", lost.shine(60), 0);
        Check.due("20: all LOST with any site", lost.site(40), 0);
        TowerWarns last = six(0, 0, 0);
        Check.due("21: of six alike the least", last.nearest(100), 0);
        last.set(5, 4, 0);
        Check.due("21: the last", last.nearest(0), 5);
        Check.due("21: the last, ahead", last.nearest(100), 5);
        last.set(5, 1, 19);
        Check.due("11: the last alone is BY", last.hours(1), 32);
        Check.due("6: a 7th, one of them BY", last.ship(0, 0), Check.FULL);
        TowerWarns sites = six(3, 0, 0);
        for (int i = 0; i < 6; i++) {
            sites.set(i, 1, i);
        }
        Check.due("20: the least place where none of six is LOST", sites.site(1), 0);
        sites.set(0, 1, 19);
        sites.tower(0, 0);
        Check.due("20: nor with one that goes BY", sites.site(40), 0);
    }

    private static void allCost() {
        TowerWarns x = six(0, 8, 5);
        for (int i = 0; i < 6; i++) {
            x.set(i, 3, 9999);
        }
        Check.due("34: COST of six at most", x.count(3), 59994);
        x.hours(1);
        Check.due("34: held", x.count(3), 59994);
        Check.due("19: COST held, whatever the hour", x.hour(60), 0);
        Check.due("20: COST held, wherever it stands", x.site(40), 0);
        x.lamp(0);
        Check.due("34: in no hour", x.count(2), 0);
        Check.due("19: COST held with no lamp", x.hour(60), 0);
        x.lamp(4095);
        Check.due("34: in all hours", x.count(2), 12);
        Check.due("19: COST held with every lamp", x.hour(60), 0);
    }

    /** By night, where only the last of six is still to be saved, or still to pay. */
    private static void allButOne() {
        TowerWarns lost = new TowerWarns();
        lost.hours(6);
        for (int i = 0; i < 6; i++) {
            lost.ship(i < 5 ? 3 : 0, 5);
            lost.set(i, 1, 9);
        }
        Check.due("18: five are LOST with any REACH, the sixth but with 0", lost.shine(1), 1);
        TowerWarns cost = new TowerWarns();
        cost.hours(6);
        for (int i = 0; i < 6; i++) {
            cost.ship(0, 2);
            cost.set(i, 1, 10);
            cost.set(i, 3, i < 5 ? 9999 : 9998);
        }
        Check.due("19: COST of five is held, the sixth's grows but in the dark", cost.hour(1), 6);
    }

    private static void sheetsOfNone() {
        for (int bits : new int[] {8, 16, 64}) {
            TowerWarns x = six(0, 0, 3);
            Check.due("25: none", x.sheet(0, bits, 0), 0);
            x.sheet(1, bits, 2);
            Check.due("26: number 0", x.write(0, 0, 1), Check.BEYOND);
            Check.due("27: none from it", x.copy(0, 0, 1, 0, 0), 0);
            Check.due("27: none to it", x.copy(1, 0, 0, 0, 0), 0);
            Check.due("27: none from it to itself", x.copy(0, 0, 0, 0, 0), 0);
            Check.due("27: one from it", x.copy(0, 0, 1, 0, 1), Check.BEYOND);
            Check.due("27: one to it", x.copy(1, 0, 0, 0, 1), Check.BEYOND);
            Check.due("28: no ROWS", x.lays(0), 0);
            Check.due("28: the ROW stays", x.of(0, 2), 3);
            Check.due("29: nothing to book", x.book(0, 5), 0);
            Check.due("30: all pairs make nothing just so", x.read(0, 5), 60);
        }
    }

    private static void sheetsOfForty() {
        for (int bits : new int[] {8, 16, 64}) {
            TowerWarns x = six(0, 0, 5);
            x.sheet(3, bits, 40);
            Check.due("29: all 40", x.book(3, 0), 40);
            int[] due = {5, 5, 5, 5, 5, 5, 5, 4, 3, 2, 1};
            for (int i = 0; i < 40; i++) {
                Check.due("29: ROW " + i + " HOURS AHEAD", x.write(3, i, i % 10), i < due.length ? due[i] : 0);
            }
            Check.due("28: six of 40", x.lays(3), 6);
            Check.due("28: the last of six", x.of(5, 2), 5);
            x.set(0, 1, 0);
            x.set(0, 2, 9);
            x.book(3, 0);
            Check.due("30: 40 that it makes", x.read(3, 0) > 0 ? 1 : 0, 1);
            x.write(3, 39, x.write(3, 39, 0) + 1);
            Check.due("30: the 40th otherwise", x.read(3, 0), 0);
        }
    }

    private static void sheetsThatAreMissing() {
        for (int s = 0; s < 4; s++) {
            TowerWarns x = six(0, 0, 5);
            for (int t = 0; t < 4; t++) {
                x.sheet(t, t == s ? 0 : 8, 2);
            }
            Check.due("26: write", x.write(s, 0, 0), Check.MISSING);
            Check.due("28: lays", x.lays(s), Check.MISSING);
            Check.due("29: book", x.book(s, 0), Check.MISSING);
            Check.due("30: read", x.read(s, 0), Check.MISSING);
            for (int t = 0; t < 4; t++) {
                Check.due("27: copy from", x.copy(s, 0, t, 0, 1), Check.MISSING);
                Check.due("27: copy to", x.copy(t, 0, s, 0, 1), Check.MISSING);
            }
            x.sheet(s, 8, 1);
            x.sheet(s, 0, 1);
            Check.due("25: MISSING again", x.write(s, 0, 0), Check.MISSING);
            Check.due("all MISSING", x.status(5), 13);
        }
    }

    private static void readerOfAll() {
        TowerWarns x = new TowerWarns();
        x.ship(0, 5);
        x.sheet(0, 8, 1);
        x.write(0, 0, 5);
        Check.due("30: where it is now: all KINDS with all REACHES", x.read(0, 0), 60);
        x.write(0, 0, 4);
        Check.due("30: where it isn't: none", x.read(0, 0), 0);
        x.write(0, 0, -1);
        Check.due("30: no ROW at all, below", x.read(0, 0), 0);
        x.write(0, 0, 10);
        Check.due("30: no ROW at all, above", x.read(0, 0), 0);
        x.sheet(0, 64, 1);
        x.write(0, 0, 5 + (1L << 32));
        Check.due("30: all bits of a number count", x.read(0, 0), 0);
        TowerWarns night = new TowerWarns();
        night.hours(6);
        night.ship(0, 5);
        night.set(0, 1, 1);
        night.sheet(0, 8, 2);
        night.write(0, 0, 5);
        night.write(0, 1, 4);
        Check.due("30: seen at 9: a ship and a steamer with REACH 9", night.read(0, 0), 2);
        night.set(0, 1, 10);
        Check.due("30: seen at 0: ship, steamer and mail with any REACH", night.read(0, 0), 30);
        night.write(0, 1, 3);
        Check.due("30: a boat with any REACH", night.read(0, 0), 10);
    }

    private static void noImage() {
        TowerWarns x = new TowerWarns();
        Check.due("32: nothing kept", x.undo(), Check.NONE);
        Check.due("33: nothing to tear", x.tear(), 0);
        Check.due("31: image", x.image(), 1);
        Check.due("33: tear", x.tear(), 1);
        Check.due("33: tear again", x.tear(), 0);
        x.reach(9);
        Check.due("32: what was torn is gone", x.undo(), Check.NONE);
        Check.due("32: and nothing changes", x.now(5), 9);
        Check.due("31: image behind it", x.image(), 1);
        x.reach(1);
        Check.due("32: it is the new one", x.undo(), 0);
        Check.due("32: as it was then", x.now(5), 9);
    }

    private static void anImageOfNothing() {
        TowerWarns x = new TowerWarns();
        x.image();
        for (int i = 0; i < 6; i++) {
            x.ship(4, 9);
        }
        x.hours(100);
        x.tower(0, 0);
        x.lamp(0);
        x.reach(0);
        Check.due("32: no SHIPS", x.undo(), 0);
        Check.due("32: none", x.count(0), 0);
        Check.due("32: HOUR", x.now(0), 0);
        Check.due("32: the tower", x.now(4), 105);
        Check.due("32: REACH", x.now(5), 4);
        Check.due("32: none BY", x.now(7), 0);
        Check.due("32: the lamp", x.lamp(0), 4032);
        Check.due("32: of one that isn't there", x.of(0, 0), Check.BEYOND);
        Check.due("6: a new one is number 0", x.ship(0, 1), 0);
        int[] due = {0, 0, 1, 0, 99, 0, 0};
        for (int what = 0; what < due.length; what++) {
            Check.due("6: and as new, what " + what, x.of(0, what), due[what]);
        }
    }

    private static void anImageOfAll() {
        TowerWarns x = Scene.ended();
        for (int i = 0; i < 3; i++) {
            x.ship(5, i);
        }
        x.image();
        for (int i = 0; i < 6; i++) {
            x.set(i, 1, 0);
        }
        x.hours(1);
        Check.due("32: six SHIPS", x.undo(), 6);
        Check.due("32: LOST again", x.now(6), 1);
        Check.due("32: BY again", x.now(7), 2);
        Check.due("32: a 7th", x.ship(0, 0), Check.FULL);
        x.hours(1);
        Check.due("32: it stays: undo again", x.undo(), 6);
        Check.due("32: HOUR again", x.now(0), 1);
        x.set(2, 3, 77);
        Check.due("31: a later image", x.image(), 1);
        x.set(2, 3, 78);
        x.undo();
        Check.due("32: the latest is what it becomes", x.of(2, 3), 77);
    }

    /** Ships that were LOST or BY, with COST and NEAR, are undone, and others come in their numbers. */
    private static void nothingIsLeftOfOneBefore() {
        TowerWarns x = new TowerWarns();
        x.image();
        for (int i = 0; i < 6; i++) {
            x.ship(3, 5);
            x.set(i, 1, i % 2 == 0 ? 9 : 19);
            x.set(i, 3, 50 + i);
        }
        x.hours(1);
        Check.due("three are LOST", x.now(6), 0b010101);
        Check.due("three are BY", x.now(7), 0b101010);
        Check.due("32: undo", x.undo(), 0);
        Check.due("5: none is LOST", x.now(6), 0);
        Check.due("5: none is BY", x.now(7), 0);
        Check.due("34: no COST", x.count(3), 0);
        Check.due("13: none is LOST ahead", x.then(0, 0), 0);
        Check.due("13: none is BY ahead", x.then(0, 1), 0);
        Check.due("21: nobody is nearest", x.nearest(0), Check.NONE);
        x.ship(1, 2);
        x.ship(2, 3);
        Check.due("24: two more", Check.sea(x, "mail 4 at 7;gig 5 at 8"), 2);
        int[][] due = {{1, 0, 2}, {2, 0, 3}, {4, 7, 4}, {5, 8, 5}};
        for (int ship = 0; ship < due.length; ship++) {
            for (int what = 0; what < 7; what++) {
                int want = what < 3 ? due[ship][what] : what == 4 ? 99 : 0;
                Check.due("6: as new, what " + what + " of " + ship, x.of(ship, what), want);
            }
        }
    }

    private static void whatAnImageLeaves() {
        TowerWarns x = new TowerWarns();
        x.sheet(0, 8, 1);
        x.write(0, 0, 1);
        x.feed('r', 1);
        x.image();
        x.write(0, 0, 2);
        x.sheet(1, 8, 1);
        Check.feed(x, "each 3");
        x.now(8);
        x.undo();
        Check.due("31: a number of a sheet isn't kept", x.write(0, 0, 0), 2);
        Check.due("31: nor that a sheet was MISSING", x.write(1, 0, 0), 0);
        Check.due("31: nor THE TAPE", x.count(1), 7);
        Check.due("35: nor status", x.status(-1), 1);
        Check.due("31: the tape is a text", x.sea(), 1);
        x.feed('r', 1);
        x.image();
        x.wipe();
        x.undo();
        Check.due("31: what was wiped stays so", x.count(1), 0);
    }

    private static void objectsAreApart() {
        TowerWarns x = new TowerWarns();
        TowerWarns y = new TowerWarns();
        x.ship(0, 0);
        x.tower(0, 0);
        x.feed('a', 1);
        x.sheet(0, 8, 1);
        x.image();
        x.now(8);
        Check.same("1: a new object is as new, whatever another one did", Scene.seen(y), Scene.seen(new TowerWarns()));
    }
}
