/**
 * Every limit of every promise: the last number that is taken on either side, with what it does, and the first
 * that is refused (RefusedTest asks what a refused call leaves as it was).
 */
public final class LimitsTest {
    public static void main(String[] args) {
        theTower();
        whatIsNow();
        theDayGoesRound();
        kindsAndRows();
        whatIsAskedOfAShip();
        whatIsSet();
        setEndsLostAndBy();
        turned();
        hoursThatGo();
        hoursAhead();
        soonestAndLatest();
        hoursOfWhatIsBest();
        firstAndLastSite();
        leastAndMostOfTheBest();
        bytesOfAFeed();
        numbersOfASheet();
        bitsOfANumber();
        numbersThatAreCopied();
        numbersThatAreRows();
        countsAndStatus();
        Check.end("LimitsTest");
    }

    private static TowerWarns withShips(int n) {
        TowerWarns x = new TowerWarns();
        for (int i = 0; i < n; i++) {
            x.ship(0, i);
        }
        return x;
    }

    /** A sea at an hour with one ship. */
    private static TowerWarns one(int hour, int kind, int column, int row) {
        TowerWarns x = new TowerWarns();
        if (hour > 0) {
            x.hours(hour);
        }
        x.ship(kind, row);
        x.set(0, 1, column);
        return x;
    }

    private static void theTower() {
        TowerWarns x = new TowerWarns();
        int[][] places = {{0, 0}, {19, 0}, {0, 9}, {19, 9}};
        int before = 105;
        for (int[] p : places) {
            Check.due("2: the tower at " + p[0] + ", " + p[1], x.tower(p[0], p[1]), before);
            before = 10 * p[0] + p[1];
            Check.due("2: it is there", x.now(4), before);
        }
        Check.due("2: COLUMN -1", x.tower(-1, 0), Check.BEYOND);
        Check.due("2: COLUMN 20", x.tower(20, 0), Check.BEYOND);
        Check.due("2: ROW -1", x.tower(0, -1), Check.BEYOND);
        Check.due("2: ROW 10", x.tower(0, 10), Check.BEYOND);
        Check.due("3: at first it burns from 6 to 11", x.lamp(0), 0b111111000000);
        Check.due("3: in no hour", x.lamp(4095), 0);
        Check.due("3: in every hour", x.lamp(2048), 4095);
        Check.due("3: in the last hour alone", x.lamp(1), 2048);
        Check.due("3: -1", x.lamp(-1), Check.BEYOND);
        Check.due("3: 4096", x.lamp(4096), Check.BEYOND);
        Check.due("3: in the first hour alone", x.lamp(0), 1);
        Check.due("4: at first 4", x.reach(0), 4);
        Check.due("4: 0", x.reach(9), 0);
        Check.due("4: -1", x.reach(-1), Check.BEYOND);
        Check.due("4: 10", x.reach(10), Check.BEYOND);
        Check.due("4: 9", x.reach(0), 9);
    }

    private static void whatIsNow() {
        TowerWarns x = new TowerWarns();
        Check.due("5: what -1", x.now(-1), Check.BEYOND);
        Check.due("5: what 0", x.now(0), 0);
        Check.due("5: what 7", x.now(7), 0);
        Check.due("5: what 8", x.now(8), Check.BEYOND);
    }

    private static void theDayGoesRound() {
        int[][] due = {{0, 0, 0}, {5, 5, 0}, {6, 6, 1}, {11, 11, 1}, {12, 0, 0}, {17, 5, 0}, {18, 6, 1}, {23, 11, 1}, {24, 0, 0}};
        for (int[] d : due) {
            TowerWarns x = one(d[0], 0, 0, 0);
            Check.due("1: HOUR " + d[0], x.now(0), d[0]);
            Check.due("1: of the day, HOUR " + d[0], x.now(1), d[1]);
            Check.due("1: NIGHT, HOUR " + d[0], x.now(2), d[2]);
            Check.due("1: the lamp as at first, HOUR " + d[0], x.now(3), d[2]);
            x.lamp(1 << d[1]);
            Check.due("5: it burns in this hour alone, HOUR " + d[0], x.now(3), 1);
            x.lamp(4095 - (1 << d[1]));
            Check.due("5: it doesn't in this hour alone, HOUR " + d[0], x.now(3), 0);
        }
    }

    private static void kindsAndRows() {
        TowerWarns x = new TowerWarns();
        Check.due("6: KIND -1", x.ship(-1, 0), Check.BEYOND);
        Check.due("6: KIND 6", x.ship(6, 0), Check.BEYOND);
        Check.due("6: ROW -1", x.ship(0, -1), Check.BEYOND);
        Check.due("6: ROW 10", x.ship(0, 10), Check.BEYOND);
        Check.due("6: KIND 0 in ROW 9", x.ship(0, 9), 0);
        Check.due("6: KIND 5 in ROW 0", x.ship(5, 0), 1);
        int[] first = {0, 0, 9, 0, 99, 0, 0};
        int[] second = {5, 0, 0, 0, 99, 0, 0};
        for (int what = 0; what < first.length; what++) {
            Check.due("6: at first, what " + what + " of 0", x.of(0, what), first[what]);
            Check.due("6: at first, what " + what + " of 1", x.of(1, what), second[what]);
        }
        for (int i = 2; i < 5; i++) {
            Check.due("6: one more", x.ship(0, 0), i);
        }
        Check.due("6: the 6th is taken", x.ship(4, 3), 5);
        Check.due("6: the 7th isn't", x.ship(4, 3), Check.FULL);
        Check.due("6: there are 6", x.count(0), 6);
        Check.due("6: the 6th stays", x.of(5, 0) * 10 + x.of(5, 2), 43);
    }

    private static void whatIsAskedOfAShip() {
        TowerWarns x = withShips(4);
        Check.due("7: what -1", x.of(0, -1), Check.BEYOND);
        Check.due("7: what 0", x.of(0, 0), 0);
        Check.due("7: what 11", x.of(0, 11), 0);
        Check.due("7: what 12", x.of(0, 12), Check.BEYOND);
        Check.due("7: ship -1", x.of(-1, 2), Check.BEYOND);
        Check.due("7: the first", x.of(0, 2), 0);
        Check.due("7: the last", x.of(3, 2), 3);
        Check.due("7: one behind the last", x.of(4, 2), Check.BEYOND);
        Check.due("8: ship -1", x.set(-1, 2, 5), Check.BEYOND);
        Check.due("8: the last", x.set(3, 2, 5), 3);
        Check.due("8: one behind the last", x.set(4, 2, 5), Check.BEYOND);
        Check.due("9: the last", x.turn(3, 5), 0);
        Check.due("9: one behind the last", x.turn(4, 5), Check.BEYOND);
        Check.due("10: the last", x.as(3, 5), 0);
        Check.due("10: one behind the last", x.as(4, 5), Check.BEYOND);
        Check.due("12: the last", x.on(3, 0, 1), 5);
        Check.due("12: one behind the last", x.on(4, 0, 1), Check.BEYOND);
        Check.due("14: the last", x.comes(2), 20);
        Check.due("14: one behind the last", x.comes(4), Check.BEYOND);
        Check.due("15: one behind the last", x.wrecks(4), Check.BEYOND);
        Check.due("16: the last", x.row(2), 0);
        Check.due("16: one behind the last", x.row(4), Check.BEYOND);
        Check.due("17: the last", x.kind(2), 4);
        Check.due("17: one behind the last", x.kind(4), Check.BEYOND);
    }

    private static void whatIsSet() {
        String[] names = {"", "COLUMN", "ROW", "COST", "NEAR"};
        int[] first = {0, 0, 0, 0, 99};
        int[] most = {0, 19, 9, 9999, 99};
        TowerWarns x = withShips(1);
        for (int what = 1; what <= 4; what++) {
            Check.due("8: " + names[what] + " 0", x.set(0, what, 0), first[what]);
            Check.due("8: " + names[what] + " most", x.set(0, what, most[what]), 0);
            Check.due("8: " + names[what] + " above that", x.set(0, what, most[what] + 1), Check.BEYOND);
            Check.due("8: " + names[what] + " -1", x.set(0, what, -1), Check.BEYOND);
            Check.due("8: " + names[what] + " is the most", x.of(0, what), most[what]);
        }
        Check.due("8: what 0", x.set(0, 0, 0), Check.BEYOND);
        Check.due("8: what 5", x.set(0, 5, 0), Check.BEYOND);
    }

    private static void setEndsLostAndBy() {
        TowerWarns lost = one(0, 3, 9, 5);
        lost.hours(1);
        lost.set(0, 2, 1);
        lost.set(0, 3, 1);
        lost.set(0, 4, 1);
        Check.due("8: ROW, COST, NEAR leave it LOST", lost.now(6), 1);
        Check.due("8: COLUMN 20 leaves it LOST", lost.set(0, 1, 20), Check.BEYOND);
        Check.due("8: it is LOST still", lost.now(6), 1);
        Check.due("8: COLUMN was 10", lost.set(0, 1, 10), 10);
        Check.due("8: the same COLUMN ends LOST", lost.now(6), 0);
        TowerWarns by = one(0, 0, 19, 5);
        by.hours(1);
        by.set(0, 2, 1);
        by.set(0, 3, 1);
        by.set(0, 4, 1);
        Check.due("8: ROW, COST, NEAR leave it BY", by.now(7), 1);
        Check.due("8: COLUMN -1 leaves it BY", by.set(0, 1, -1), Check.BEYOND);
        Check.due("8: it is BY still", by.now(7), 1);
        Check.due("8: COLUMN was 20", by.set(0, 1, 19), 20);
        Check.due("8: COLUMN 19 ends BY", by.now(7), 0);
        Check.due("8: and it goes again", by.hours(1), 1);
    }

    private static void turned() {
        TowerWarns x = withShips(1);
        Check.due("9: KIND -1", x.turn(0, -1), Check.BEYOND);
        Check.due("9: KIND 6", x.turn(0, 6), Check.BEYOND);
        Check.due("9: KIND 5", x.turn(0, 5), 0);
        Check.due("9: KIND 0", x.turn(0, 0), 5);
        Check.due("10: KIND -1", x.as(0, -1), Check.BEYOND);
        Check.due("10: KIND 6", x.as(0, 6), Check.BEYOND);
        Check.due("10: KIND 0", x.as(0, 0), 0);
        Check.due("10: KIND 5", x.as(0, 5), Check.KIND);
        TowerWarns y = one(0, 3, 9, 5);
        y.hours(1);
        y.turn(0, 1);
        Check.due("9: one LOST stays LOST", y.of(0, 5), 1);
    }

    private static void hoursThatGo() {
        TowerWarns x = withShips(1);
        Check.due("11: -1", x.hours(-1), Check.BEYOND);
        Check.due("11: 0", x.hours(0), Check.BEYOND);
        Check.due("11: 101", x.hours(101), Check.BEYOND);
        Check.due("11: 1", x.hours(1), 0);
        Check.due("11: one HOUR went", x.now(0), 1);
        Check.due("11: 100", x.hours(100), 1);
        Check.due("11: a hundred went", x.now(0), 101);
        TowerWarns y = withShips(1);
        y.hours(19);
        Check.due("11: not BY in the 19th hour", y.now(7), 0);
        Check.due("11: BY in the 20th", y.hours(1), 1);
        Check.due("11: and behind it", y.hours(1), 1);
    }

    private static void hoursAhead() {
        TowerWarns x = one(0, 0, 0, 2);
        Check.due("12: -1 HOURS", x.on(0, -1, 0), Check.BEYOND);
        Check.due("12: 101 HOURS", x.on(0, 101, 0), Check.BEYOND);
        int[] now = {0, 2, 0, 99};
        int[] next = {1, 2, 0, 9};
        int[] last = {20, 0, 2, 4};
        for (int what = 0; what < 4; what++) {
            Check.due("12: 0 HOURS, what " + what, x.on(0, 0, what), now[what]);
            Check.due("12: 1 HOUR, what " + what, x.on(0, 1, what), next[what]);
            Check.due("12: 100 HOURS, what " + what, x.on(0, 100, what), last[what]);
        }
        Check.due("12: what -1", x.on(0, 0, -1), Check.BEYOND);
        Check.due("12: what 4", x.on(0, 0, 4), Check.BEYOND);
        Check.due("13: -1 HOURS", x.then(-1, 0), Check.BEYOND);
        Check.due("13: 101 HOURS", x.then(101, 0), Check.BEYOND);
        Check.due("13: what -1", x.then(0, -1), Check.BEYOND);
        Check.due("13: what 2", x.then(0, 2), Check.BEYOND);
        Check.due("13: 0 HOURS", x.then(0, 1), 0);
        Check.due("13: 19 HOURS", x.then(19, 1), 0);
        Check.due("13: 20 HOURS", x.then(20, 1), 1);
        Check.due("13: 100 HOURS", x.then(100, 1), 1);
        Check.due("13: never LOST", x.then(100, 0), 0);
    }

    /** No ship is longer under way than a drifter from COLUMN 0, so 100 HOURS themselves can't be reached. */
    private static void soonestAndLatest() {
        TowerWarns by = one(0, 0, 19, 0);
        Check.due("14: BY in an hour", by.comes(0), 1);
        by.hours(1);
        Check.due("14: BY in no hour", by.comes(0), 0);
        by.hours(100);
        Check.due("14: BY long since", by.comes(0), 0);
        Check.due("14: a drifter in an even hour", one(0, 3, 0, 0).comes(0), 39);
        Check.due("14: a drifter in an odd hour", one(1, 3, 0, 0).comes(0), 40);
        TowerWarns lost = one(0, 3, 9, 5);
        Check.due("15: LOST in an hour", lost.wrecks(0), 1);
        lost.hours(1);
        Check.due("15: LOST in no hour", lost.wrecks(0), 0);
        lost.hours(100);
        Check.due("15: LOST long since", lost.wrecks(0), 0);
        TowerWarns far = one(1, 3, 0, 5);
        far.tower(19, 5);
        Check.due("15: a drifter, all the way", far.wrecks(0), 38);
    }

    private static void hoursOfWhatIsBest() {
        TowerWarns x = one(6, 0, 8, 5);
        Check.due("18: 0 HOURS", x.shine(0), Check.BEYOND);
        Check.due("18: 1 HOUR: none is LOST yet", x.shine(1), 0);
        Check.due("18: 2 HOURS", x.shine(2), 1);
        Check.due("18: 60 HOURS", x.shine(60), 1);
        Check.due("18: 61 HOURS", x.shine(61), Check.BEYOND);
        x.set(0, 1, 10);
        x.set(0, 2, 2);
        Check.due("19: 0 HOURS", x.hour(0), Check.BEYOND);
        Check.due("19: 1 HOUR", x.hour(1), 6);
        Check.due("19: 60 HOURS", x.hour(60), 6);
        Check.due("19: 61 HOURS", x.hour(61), Check.BEYOND);
        TowerWarns y = one(0, 3, 0, 0);
        Check.due("20: 0 HOURS", y.site(0), Check.BEYOND);
        Check.due("20: 1 HOUR: not where it comes", y.site(1), 0);
        y.set(0, 1, 18);
        y.turn(0, 0);
        Check.due("20: 40 HOURS", y.site(40), 0);
        Check.due("20: 41 HOURS", y.site(41), Check.BEYOND);
        TowerWarns z = withShips(2);
        z.set(1, 4, 98);
        Check.due("21: -1 HOURS", z.nearest(-1), Check.BEYOND);
        Check.due("21: 0 HOURS", z.nearest(0), 1);
        z.set(0, 1, 10);
        Check.due("21: 1 HOUR", z.nearest(1), 0);
        Check.due("21: 100 HOURS", z.nearest(100), 1);
        Check.due("21: 101 HOURS", z.nearest(101), Check.BEYOND);
    }

    private static TowerWarns sea(String text) {
        TowerWarns x = new TowerWarns();
        Check.holds("'" + text + "' is a sea", Check.sea(x, text) > 0);
        return x;
    }

    /** The gig turns but for a tower in its ROW; each ship sees the tower in its COLUMN and the three behind it. */
    private static void firstAndLastSite() {
        Check.due("20: the last place of all", sea("gig 9;ship 9;ship 9 at 4;ship 9 at 8;ship 9 at 12;ship 9 at 15").site(1), 199);
        Check.due("20: none beyond it", sea("gig 9;ship 9;ship 9 at 4;ship 9 at 8;ship 9 at 12;ship 9 at 16").site(1), 0);
        Check.due("20: the first place", sea("gig 0").site(1), 0);
        Check.due("20: the first COLUMN, the last ROW", sea("gig 9").site(1), 9);
    }

    private static void leastAndMostOfTheBest() {
        Check.due("16: ROW 0", sea("ship 5").row(0), 0);
        Check.due("16: ROW 9", sea("tower 19 0;gig 4").row(0), 9);
        Check.due("17: KIND 0", sea("drifter 5 at 19").kind(0), 0);
        TowerWarns dawn = new TowerWarns();
        dawn.hours(10);
        Check.sea(dawn, "tower 16 5;ship 4 at 16");
        Check.due("17: KIND 5", dawn.kind(0), 5);
        TowerWarns night = new TowerWarns();
        night.hours(6);
        Check.sea(night, "ship 2 at 10");
        Check.due("19: the hour that it is", night.hour(1), 6);
        TowerWarns last = new TowerWarns();
        last.hours(11);
        Check.sea(last, "ship 2 at 10");
        Check.due("19: the last hour of the day", last.hour(1), 11);
        last.lamp(0);
        Check.due("19: the first hour of the day", last.hour(1), 0);
        TowerWarns shone = new TowerWarns();
        shone.hours(6);
        Check.sea(shone, "steamer 5 at 2");
        shone.lamp(64);
        Check.due("18: REACH 8, than which none need be more", shone.shine(6), 8);
        shone.reach(9);
        Check.due("18: whatever it is now", shone.shine(6), 8);
        Check.due("18: REACH 0", shone.shine(1), 0);
    }

    private static void bytesOfAFeed() {
        TowerWarns x = new TowerWarns();
        Check.due("22: n -1", x.feed(0, -1), Check.BEYOND);
        Check.due("22: n 0", x.feed(0, 0), Check.BEYOND);
        Check.due("22: n 5", x.feed(0, 5), Check.BEYOND);
        Check.due("22: n 1, the lowest byte", x.feed(0x41414100 | 'r', 1), 1);
        Check.due("22: n 4, the highest first", x.feed('e' << 24 | 'a' << 16 | 'c' << 8 | 'h', 4), 5);
        Check.due("22: n 2, two of four", x.feed(0x41410000 | ' ' << 8 | '7', 2), 7);
        Check.due("22: n 3, three of four", x.feed(0x41000000 | ' ' << 16 | ' ' << 8 | ' ', 3), 10);
        Check.due("22: it is a text", x.sea(), 1);
        Check.due("22: reach 7", x.now(5), 7);
        x.feed(0xff000000, 4);
        Check.due("22: a byte of 255 begins no TOKEN", x.sea(), -1);
    }

    private static void numbersOfASheet() {
        TowerWarns x = new TowerWarns();
        Check.due("25: sheet -1", x.sheet(-1, 8, 0), Check.BEYOND);
        Check.due("25: sheet 4", x.sheet(4, 8, 0), Check.BEYOND);
        for (int bits : new int[] {8, 16, 64}) {
            for (int s = 0; s <= 3; s++) {
                Check.due("25: 0 numbers", x.sheet(s, bits, 0), 0);
                Check.due("26: number 0 of 0", x.write(s, 0, 1), Check.BEYOND);
                Check.due("25: 40 numbers", x.sheet(s, bits, 40), 40);
                Check.due("25: 41 numbers", x.sheet(s, bits, 41), Check.BEYOND);
                Check.due("25: -1 numbers", x.sheet(s, bits, -1), Check.SIZE);
                Check.due("26: number -1", x.write(s, -1, 1), Check.BEYOND);
                Check.due("26: number 0", x.write(s, 0, 1), 0);
                Check.due("26: number 39", x.write(s, 39, 2), 0);
                Check.due("26: number 40", x.write(s, 40, 1), Check.BEYOND);
                Check.due("26: number 39 was written", x.write(s, 39, 2), 2);
                Check.due("25: 1 number", x.sheet(s, bits, 1), 1);
                Check.due("25: all 0", x.write(s, 0, 1), 0);
                Check.due("26: number 1 of 1", x.write(s, 1, 1), Check.BEYOND);
                Check.due("25: 40 again", x.sheet(s, bits, 40), 40);
                Check.due("25: all 0, the last too", x.write(s, 39, 1), 0);
            }
        }
        for (int n : new int[] {0, 1, 40}) {
            x.sheet(2, 8, 5);
            Check.due("25: MISSING with n " + n, x.sheet(2, 0, n), 0);
            Check.due("25: it is", x.write(2, 0, 1), Check.MISSING);
            Check.due("25: MISSING again with n " + n, x.sheet(2, 0, n), 0);
        }
    }

    private static void bitsOfANumber() {
        TowerWarns x = new TowerWarns();
        x.sheet(0, 8, 1);
        x.sheet(1, 16, 1);
        x.sheet(2, 64, 1);
        long[][] due = {{127, 127, 127}, {128, -128, 128}, {255, -1, 255}, {256, 0, 256}, {-128, -128, -128}, {-129, 127, -129},
            {32767, -1, 32767}, {32768, 0, -32768}, {65535, -1, -1}, {65536, 0, 0}, {-32768, 0, -32768}, {-32769, -1, 32767},
            {Long.MAX_VALUE, -1, -1}, {Long.MIN_VALUE, 0, 0}, {0x100000001L, 1, 1}, {-1000000007L, -7, 0x35f9}};
        for (long[] d : due) {
            for (int s = 0; s < 3; s++) {
                x.write(s, 0, d[0]);
            }
            Check.due("26: 8 bits of " + d[0], x.write(0, 0, 0), d[1]);
            Check.due("26: 16 bits of " + d[0], x.write(1, 0, 0), d[2]);
            Check.due("26: 64 bits of " + d[0], x.write(2, 0, 0), d[0]);
        }
        Check.due("26: a number that looks like a finding is none", x.status(-1), 0);
    }

    private static void numbersThatAreCopied() {
        TowerWarns x = new TowerWarns();
        x.sheet(0, 16, 40);
        x.sheet(1, 16, 40);
        for (int i = 0; i < 40; i++) {
            x.write(0, i, 100 + i);
        }
        Check.due("27: 41", x.copy(0, 0, 1, 0, 41), Check.BEYOND);
        Check.due("27: 40", x.copy(0, 0, 1, 0, 40), 40);
        Check.due("27: the first came", x.write(1, 0, 0), 100);
        Check.due("27: the last came", x.write(1, 39, 0), 139);
        Check.due("27: 40 from 1 on", x.copy(0, 1, 1, 0, 40), Check.BEYOND);
        Check.due("27: 40 to 1 on", x.copy(0, 0, 1, 1, 40), Check.BEYOND);
        Check.due("27: the last to the first", x.copy(0, 39, 1, 0, 1), 1);
        Check.due("27: it came", x.write(1, 0, 0), 139);
        Check.due("27: the first to the last", x.copy(0, 0, 1, 39, 1), 1);
        Check.due("27: it came", x.write(1, 39, 0), 100);
        Check.due("27: one behind the last", x.copy(0, 40, 1, 0, 1), Check.BEYOND);
        Check.due("27: to one behind the last", x.copy(0, 0, 1, 40, 1), Check.BEYOND);
        Check.due("27: none from behind the last", x.copy(0, 40, 1, 40, 0), 0);
        Check.due("27: none at all", x.copy(0, 0, 1, 0, 0), 0);
        Check.due("27: to itself, one on, as they all were", x.copy(0, 0, 0, 1, 39), 39);
        Check.due("27: its first stays", x.write(0, 0, 0), 100);
        Check.due("27: its second was the first", x.write(0, 1, 0), 100);
        Check.due("27: its last was the one before", x.write(0, 39, 0), 138);
        x.sheet(2, 16, 3);
        Check.due("27: to fewer, just so many", x.copy(1, 0, 2, 0, 3), 3);
        Check.due("27: to fewer, one more", x.copy(1, 0, 2, 0, 4), Check.BEYOND);
        Check.due("27: from fewer, just so many", x.copy(2, 0, 1, 0, 3), 3);
        Check.due("27: from fewer, one more", x.copy(2, 0, 1, 0, 4), Check.BEYOND);
        Check.due("27: nothing comes past it", x.write(2, 3, 0), Check.BEYOND);
    }

    private static void numbersThatAreRows() {
        long[] numbers = {-1, 0, 9, 10, Long.MIN_VALUE, Long.MAX_VALUE, 1L << 32};
        int[] came = {0, 1, 1, 0, 0, 0, 0};
        int[] row = {4, 0, 9, 4, 4, 4, 4};
        for (int i = 0; i < numbers.length; i++) {
            TowerWarns x = one(0, 0, 0, 4);
            x.sheet(0, 64, 1);
            x.write(0, 0, numbers[i]);
            Check.due("28: the number " + numbers[i], x.lays(0), came[i]);
            Check.due("28: the ROW by the number " + numbers[i], x.of(0, 2), row[i]);
        }
        TowerWarns x = withShips(2);
        x.sheet(0, 8, 3);
        Check.due("28: a number for none is left out", x.lays(0), 2);
        x.ship(0, 9);
        Check.due("28: for the 3rd it stands", x.lays(0), 3);
        x.ship(0, 9);
        Check.due("28: a ship for no number", x.lays(0), 3);
        Check.due("28: stays where it is", x.of(3, 2), 9);
        x.write(0, 0, 10);
        x.write(0, 1, 6);
        Check.due("28: the first is left out", x.lays(0), 2);
        Check.due("28: and the 2nd stands for the 2nd", x.of(1, 2) * 10 + x.of(0, 2), 60);
        TowerWarns ended = Scene.ended();
        ended.sheet(0, 8, 3);
        Check.due("28: those that are LOST or BY too", ended.lays(0), 3);
        Check.due("28: they stay so", ended.now(6) * 10 + ended.now(7), 12);
    }

    private static void countsAndStatus() {
        TowerWarns x = new TowerWarns();
        Check.due("35: new", x.status(-1), 0);
        Check.due("35: -2", x.status(-2), Check.BEYOND);
        Check.due("35: counted from then on", x.status(-1), 1);
        Check.due("35: 7", x.status(7), Check.BEYOND);
        Check.due("35: BEYOND, twice", x.status(0), 2);
        Check.due("35: SIZE, the last", x.status(6), 0);
        Check.due("34: -1", x.count(-1), Check.BEYOND);
        Check.due("34: 4", x.count(4), Check.BEYOND);
        Check.due("34: 0", x.count(0), 0);
        Check.due("34: 3", x.count(3), 0);
        x.sheet(0, 8, -1);
        Check.due("35: SIZE, once", x.status(6), 1);
        x.image();
        x.now(8);
        x.undo();
        Check.due("35: undo takes none back", x.status(0), 5);
        Check.due("35: all", x.status(-1), 6);
        TowerWarns y = new TowerWarns();
        Check.due("35: another object tells its own", y.status(-1), 0);
    }
}
